/-! words of the tables, by their places -/
theorem wz_X9 : Cond.initialized RX9 ∈ ax_T := ax_inT ⟨List.mem_of_getElem? (i := 76) (by decide +kernel), by decide +kernel⟩
theorem wz_X0 : Cond.initialized RX0 ∈ ax_T := ax_inT ⟨List.mem_of_getElem? (i := 77) (by decide +kernel), by decide +kernel⟩
theorem wz_X1 : Cond.initialized RX1 ∈ ax_T := ax_inT ⟨List.mem_of_getElem? (i := 82) (by decide +kernel), by decide +kernel⟩
theorem wz_X3 : Cond.initialized RX3 ∈ ax_T := ax_inT ⟨List.mem_of_getElem? (i := 84) (by decide +kernel), by decide +kernel⟩
theorem wz_X4 : Cond.initialized RX4 ∈ ax_T := ax_inT ⟨List.mem_of_getElem? (i := 81) (by decide +kernel), by decide +kernel⟩
theorem wz_X5 : Cond.initialized RX5 ∈ ax_T := ax_inT ⟨List.mem_of_getElem? (i := 80) (by decide +kernel), by decide +kernel⟩
theorem wz_X7 : Cond.initialized RX7 ∈ ax_T := ax_inT ⟨List.mem_of_getElem? (i := 83) (by decide +kernel), by decide +kernel⟩
theorem wz_X8 : Cond.initialized RX8 ∈ ax_T := ax_inT ⟨List.mem_of_getElem? (i := 85) (by decide +kernel), by decide +kernel⟩
theorem wz_L : Cond.initialized RL ∈ ax_T := ax_inT ⟨List.mem_of_getElem? (i := 75) (by decide +kernel), by decide +kernel⟩
theorem wz_X10 : Cond.initialized RX10 ∈ ax_T := ax_inT ⟨List.mem_of_getElem? (i := 86) (by decide +kernel), by decide +kernel⟩
theorem wz_J6 : Cond.initialized RJ6 ∈ ax_T := ax_inT ⟨List.mem_of_getElem? (i := 93) (by decide +kernel), by decide +kernel⟩
theorem wz_J9 : Cond.initialized RJ9 ∈ ax_T := ax_inT ⟨List.mem_of_getElem? (i := 94) (by decide +kernel), by decide +kernel⟩
theorem wc_X0_restart : Cond.code yX0_restart cX0_restart 2 none ∈ ax_T := ax_inT ⟨List.mem_of_getElem? (i := 736) (by decide +kernel), by decide +kernel⟩
theorem wi_X0_restart : Cond.instanceMethod yX0_restart ∈ ax_T := ax_inT ⟨List.mem_of_getElem? (i := 734) (by decide +kernel), by decide +kernel⟩
theorem we_X0_restart : Cond.selects yX0_restart.cls yX0_restart yX0_restart ∈ ax_T := ax_inT ⟨List.mem_of_getElem? (i := 735) (by decide +kernel), by decide +kernel⟩
theorem wc_X0_closureOf : Cond.code yX0_closureOf cX0_closureOf 4 (some .int) ∈ ax_T := ax_inT ⟨List.mem_of_getElem? (i := 565) (by decide +kernel), by decide +kernel⟩
theorem wi_X0_closureOf : Cond.instanceMethod yX0_closureOf ∈ ax_T := ax_inT ⟨List.mem_of_getElem? (i := 563) (by decide +kernel), by decide +kernel⟩
theorem we_X0_closureOf : Cond.selects yX0_closureOf.cls yX0_closureOf yX0_closureOf ∈ ax_T := ax_inT ⟨List.mem_of_getElem? (i := 564) (by decide +kernel), by decide +kernel⟩
theorem wc_X0_addPack : Cond.code yX0_addPack cX0_addPack 6 (some .int) ∈ ax_T := ax_inT ⟨List.mem_of_getElem? (i := 792) (by decide +kernel), by decide +kernel⟩
theorem wi_X0_addPack : Cond.instanceMethod yX0_addPack ∈ ax_T := ax_inT ⟨List.mem_of_getElem? (i := 790) (by decide +kernel), by decide +kernel⟩
theorem we_X0_addPack : Cond.selects yX0_addPack.cls yX0_addPack yX0_addPack ∈ ax_T := ax_inT ⟨List.mem_of_getElem? (i := 791) (by decide +kernel), by decide +kernel⟩
theorem wc_X0_sign : Cond.code yX0_sign cX0_sign 4 (some .int) ∈ ax_T := ax_inT ⟨List.mem_of_getElem? (i := 822) (by decide +kernel), by decide +kernel⟩
theorem ws_X0_sign : Cond.static yX0_sign ∈ ax_T := ax_inT ⟨List.mem_of_getElem? (i := 821) (by decide +kernel), by decide +kernel⟩
theorem wc_X0_addIndex : Cond.code yX0_addIndex cX0_addIndex 4 (some .int) ∈ ax_T := ax_inT ⟨List.mem_of_getElem? (i := 819) (by decide +kernel), by decide +kernel⟩
theorem wi_X0_addIndex : Cond.instanceMethod yX0_addIndex ∈ ax_T := ax_inT ⟨List.mem_of_getElem? (i := 817) (by decide +kernel), by decide +kernel⟩
theorem we_X0_addIndex : Cond.selects yX0_addIndex.cls yX0_addIndex yX0_addIndex ∈ ax_T := ax_inT ⟨List.mem_of_getElem? (i := 818) (by decide +kernel), by decide +kernel⟩
theorem wc_X0_hasIndex : Cond.code yX0_hasIndex cX0_hasIndex 2 (some .boolean) ∈ ax_T := ax_inT ⟨List.mem_of_getElem? (i := 440) (by decide +kernel), by decide +kernel⟩
theorem wi_X0_hasIndex : Cond.instanceMethod yX0_hasIndex ∈ ax_T := ax_inT ⟨List.mem_of_getElem? (i := 439) (by decide +kernel), by decide +kernel⟩
theorem we_X0_hasIndex : Cond.selects yX0_hasIndex.cls yX0_hasIndex yX0_hasIndex ∈ ax_T := ax_inT ⟨List.mem_of_getElem? (i := 5) (by decide +kernel), by decide +kernel⟩
theorem wc_X0_releaseTime : Cond.code yX0_releaseTime cX0_releaseTime 2 (some .int) ∈ ax_T := ax_inT ⟨List.mem_of_getElem? (i := 436) (by decide +kernel), by decide +kernel⟩
theorem wi_X0_releaseTime : Cond.instanceMethod yX0_releaseTime ∈ ax_T := ax_inT ⟨List.mem_of_getElem? (i := 434) (by decide +kernel), by decide +kernel⟩
theorem we_X0_releaseTime : Cond.selects yX0_releaseTime.cls yX0_releaseTime yX0_releaseTime ∈ ax_T := ax_inT ⟨List.mem_of_getElem? (i := 435) (by decide +kernel), by decide +kernel⟩
theorem wc_X0_packsIn : Cond.code yX0_packsIn cX0_packsIn 2 (some .int) ∈ ax_T := ax_inT ⟨List.mem_of_getElem? (i := 512) (by decide +kernel), by decide +kernel⟩
theorem wi_X0_packsIn : Cond.instanceMethod yX0_packsIn ∈ ax_T := ax_inT ⟨List.mem_of_getElem? (i := 510) (by decide +kernel), by decide +kernel⟩
theorem we_X0_packsIn : Cond.selects yX0_packsIn.cls yX0_packsIn yX0_packsIn ∈ ax_T := ax_inT ⟨List.mem_of_getElem? (i := 511) (by decide +kernel), by decide +kernel⟩
theorem wc_X0_signatureOf : Cond.code yX0_signatureOf cX0_signatureOf 2 (some .int) ∈ ax_T := ax_inT ⟨List.mem_of_getElem? (i := 520) (by decide +kernel), by decide +kernel⟩
theorem wi_X0_signatureOf : Cond.instanceMethod yX0_signatureOf ∈ ax_T := ax_inT ⟨List.mem_of_getElem? (i := 518) (by decide +kernel), by decide +kernel⟩
theorem we_X0_signatureOf : Cond.selects yX0_signatureOf.cls yX0_signatureOf yX0_signatureOf ∈ ax_T := ax_inT ⟨List.mem_of_getElem? (i := 519) (by decide +kernel), by decide +kernel⟩
theorem wc_X0_isFresh : Cond.code yX0_isFresh cX0_isFresh 3 (some .boolean) ∈ ax_T := ax_inT ⟨List.mem_of_getElem? (i := 524) (by decide +kernel), by decide +kernel⟩
theorem wi_X0_isFresh : Cond.instanceMethod yX0_isFresh ∈ ax_T := ax_inT ⟨List.mem_of_getElem? (i := 522) (by decide +kernel), by decide +kernel⟩
theorem we_X0_isFresh : Cond.selects yX0_isFresh.cls yX0_isFresh yX0_isFresh ∈ ax_T := ax_inT ⟨List.mem_of_getElem? (i := 523) (by decide +kernel), by decide +kernel⟩
theorem wc_X0_versionIn : Cond.code yX0_versionIn cX0_versionIn 3 (some .int) ∈ ax_T := ax_inT ⟨List.mem_of_getElem? (i := 466) (by decide +kernel), by decide +kernel⟩
theorem wi_X0_versionIn : Cond.instanceMethod yX0_versionIn ∈ ax_T := ax_inT ⟨List.mem_of_getElem? (i := 464) (by decide +kernel), by decide +kernel⟩
theorem we_X0_versionIn : Cond.selects yX0_versionIn.cls yX0_versionIn yX0_versionIn ∈ ax_T := ax_inT ⟨List.mem_of_getElem? (i := 465) (by decide +kernel), by decide +kernel⟩
theorem wc_X1_restart : Cond.code yX1_restart cX1_restart 3 none ∈ ax_T := ax_inT ⟨List.mem_of_getElem? (i := 946) (by decide +kernel), by decide +kernel⟩
theorem wi_X1_restart : Cond.instanceMethod yX1_restart ∈ ax_T := ax_inT ⟨List.mem_of_getElem? (i := 944) (by decide +kernel), by decide +kernel⟩
theorem we_X1_restart : Cond.selects yX1_restart.cls yX1_restart yX1_restart ∈ ax_T := ax_inT ⟨List.mem_of_getElem? (i := 945) (by decide +kernel), by decide +kernel⟩
theorem wc_X1_installedSet : Cond.code yX1_installedSet cX1_installedSet 3 (some .int) ∈ ax_T := ax_inT ⟨List.mem_of_getElem? (i := 552) (by decide +kernel), by decide +kernel⟩
theorem wi_X1_installedSet : Cond.instanceMethod yX1_installedSet ∈ ax_T := ax_inT ⟨List.mem_of_getElem? (i := 550) (by decide +kernel), by decide +kernel⟩
theorem we_X1_installedSet : Cond.selects yX1_installedSet.cls yX1_installedSet yX1_installedSet ∈ ax_T := ax_inT ⟨List.mem_of_getElem? (i := 551) (by decide +kernel), by decide +kernel⟩
theorem wc_X1_versionOf : Cond.code yX1_versionOf cX1_versionOf 2 (some .int) ∈ ax_T := ax_inT ⟨List.mem_of_getElem? (i := 556) (by decide +kernel), by decide +kernel⟩
theorem wi_X1_versionOf : Cond.instanceMethod yX1_versionOf ∈ ax_T := ax_inT ⟨List.mem_of_getElem? (i := 555) (by decide +kernel), by decide +kernel⟩
theorem we_X1_versionOf : Cond.selects yX1_versionOf.cls yX1_versionOf yX1_versionOf ∈ ax_T := ax_inT ⟨List.mem_of_getElem? (i := 15) (by decide +kernel), by decide +kernel⟩
theorem wc_X1_property : Cond.code yX1_property cX1_property 2 (some .int) ∈ ax_T := ax_inT ⟨List.mem_of_getElem? (i := 548) (by decide +kernel), by decide +kernel⟩
theorem wi_X1_property : Cond.instanceMethod yX1_property ∈ ax_T := ax_inT ⟨List.mem_of_getElem? (i := 546) (by decide +kernel), by decide +kernel⟩
theorem we_X1_property : Cond.selects yX1_property.cls yX1_property yX1_property ∈ ax_T := ax_inT ⟨List.mem_of_getElem? (i := 547) (by decide +kernel), by decide +kernel⟩
theorem wc_X3_put : Cond.code yX3_put cX3_put 2 none ∈ ax_T := ax_inT ⟨List.mem_of_getElem? (i := 844) (by decide +kernel), by decide +kernel⟩
theorem wi_X3_put : Cond.instanceMethod yX3_put ∈ ax_T := ax_inT ⟨List.mem_of_getElem? (i := 842) (by decide +kernel), by decide +kernel⟩
theorem we_X3_put : Cond.selects yX3_put.cls yX3_put yX3_put ∈ ax_T := ax_inT ⟨List.mem_of_getElem? (i := 843) (by decide +kernel), by decide +kernel⟩
theorem wc_X8_startPack : Cond.code yX8_startPack cX8_startPack 2 none ∈ ax_T := ax_inT ⟨List.mem_of_getElem? (i := 397) (by decide +kernel), by decide +kernel⟩
theorem wi_X8_startPack : Cond.instanceMethod yX8_startPack ∈ ax_T := ax_inT ⟨List.mem_of_getElem? (i := 396) (by decide +kernel), by decide +kernel⟩
theorem we_X8_startPack : Cond.selects yX8_startPack.cls yX8_startPack yX8_startPack ∈ ax_T := ax_inT ⟨List.mem_of_getElem? (i := 0) (by decide +kernel), by decide +kernel⟩
theorem wc_X8_restart : Cond.code yX8_restart cX8_restart 3 none ∈ ax_T := ax_inT ⟨List.mem_of_getElem? (i := 393) (by decide +kernel), by decide +kernel⟩
theorem wi_X8_restart : Cond.instanceMethod yX8_restart ∈ ax_T := ax_inT ⟨List.mem_of_getElem? (i := 391) (by decide +kernel), by decide +kernel⟩
theorem we_X8_restart : Cond.selects yX8_restart.cls yX8_restart yX8_restart ∈ ax_T := ax_inT ⟨List.mem_of_getElem? (i := 392) (by decide +kernel), by decide +kernel⟩
theorem wc_X8_mayEnd : Cond.code yX8_mayEnd cX8_mayEnd 1 (some .boolean) ∈ ax_T := ax_inT ⟨List.mem_of_getElem? (i := 405) (by decide +kernel), by decide +kernel⟩
theorem wi_X8_mayEnd : Cond.instanceMethod yX8_mayEnd ∈ ax_T := ax_inT ⟨List.mem_of_getElem? (i := 403) (by decide +kernel), by decide +kernel⟩
theorem we_X8_mayEnd : Cond.selects yX8_mayEnd.cls yX8_mayEnd yX8_mayEnd ∈ ax_T := ax_inT ⟨List.mem_of_getElem? (i := 404) (by decide +kernel), by decide +kernel⟩
theorem wc_X8_readsSection : Cond.code yX8_readsSection cX8_readsSection 2 (some .boolean) ∈ ax_T := ax_inT ⟨List.mem_of_getElem? (i := 409) (by decide +kernel), by decide +kernel⟩
theorem wi_X8_readsSection : Cond.instanceMethod yX8_readsSection ∈ ax_T := ax_inT ⟨List.mem_of_getElem? (i := 408) (by decide +kernel), by decide +kernel⟩
theorem we_X8_readsSection : Cond.selects yX8_readsSection.cls yX8_readsSection yX8_readsSection ∈ ax_T := ax_inT ⟨List.mem_of_getElem? (i := 1) (by decide +kernel), by decide +kernel⟩
theorem wc_X8_readsSign : Cond.code yX8_readsSign cX8_readsSign 4 (some .boolean) ∈ ax_T := ax_inT ⟨List.mem_of_getElem? (i := 413) (by decide +kernel), by decide +kernel⟩
theorem wi_X8_readsSign : Cond.instanceMethod yX8_readsSign ∈ ax_T := ax_inT ⟨List.mem_of_getElem? (i := 412) (by decide +kernel), by decide +kernel⟩
theorem we_X8_readsSign : Cond.selects yX8_readsSign.cls yX8_readsSign yX8_readsSign ∈ ax_T := ax_inT ⟨List.mem_of_getElem? (i := 2) (by decide +kernel), by decide +kernel⟩
theorem wc_X8_readsDigit : Cond.code yX8_readsDigit cX8_readsDigit 3 (some .boolean) ∈ ax_T := ax_inT ⟨List.mem_of_getElem? (i := 417) (by decide +kernel), by decide +kernel⟩
theorem wi_X8_readsDigit : Cond.instanceMethod yX8_readsDigit ∈ ax_T := ax_inT ⟨List.mem_of_getElem? (i := 416) (by decide +kernel), by decide +kernel⟩
theorem we_X8_readsDigit : Cond.selects yX8_readsDigit.cls yX8_readsDigit yX8_readsDigit ∈ ax_T := ax_inT ⟨List.mem_of_getElem? (i := 3) (by decide +kernel), by decide +kernel⟩
theorem wc_X9_hasBitFrom : Cond.code yX9_hasBitFrom cX9_hasBitFrom 2 (some .boolean) ∈ ax_T := ax_inT ⟨List.mem_of_getElem? (i := 424) (by decide +kernel), by decide +kernel⟩
theorem ws_X9_hasBitFrom : Cond.static yX9_hasBitFrom ∈ ax_T := ax_inT ⟨List.mem_of_getElem? (i := 423) (by decide +kernel), by decide +kernel⟩
theorem wc_X8_readsLetter : Cond.code yX8_readsLetter cX8_readsLetter 3 (some .boolean) ∈ ax_T := ax_inT ⟨List.mem_of_getElem? (i := 421) (by decide +kernel), by decide +kernel⟩
theorem wi_X8_readsLetter : Cond.instanceMethod yX8_readsLetter ∈ ax_T := ax_inT ⟨List.mem_of_getElem? (i := 420) (by decide +kernel), by decide +kernel⟩
theorem we_X8_readsLetter : Cond.selects yX8_readsLetter.cls yX8_readsLetter yX8_readsLetter ∈ ax_T := ax_inT ⟨List.mem_of_getElem? (i := 4) (by decide +kernel), by decide +kernel⟩
theorem wc_X8_reads : Cond.code yX8_reads cX8_reads 2 (some .boolean) ∈ ax_T := ax_inT ⟨List.mem_of_getElem? (i := 401) (by decide +kernel), by decide +kernel⟩
theorem wi_X8_reads : Cond.instanceMethod yX8_reads ∈ ax_T := ax_inT ⟨List.mem_of_getElem? (i := 399) (by decide +kernel), by decide +kernel⟩
theorem we_X8_reads : Cond.selects yX8_reads.cls yX8_reads yX8_reads ∈ ax_T := ax_inT ⟨List.mem_of_getElem? (i := 400) (by decide +kernel), by decide +kernel⟩
theorem wc_X3_firstWrong : Cond.code yX3_firstWrong cX3_firstWrong 3 (some .int) ∈ ax_T := ax_inT ⟨List.mem_of_getElem? (i := 389) (by decide +kernel), by decide +kernel⟩
theorem wi_X3_firstWrong : Cond.instanceMethod yX3_firstWrong ∈ ax_T := ax_inT ⟨List.mem_of_getElem? (i := 387) (by decide +kernel), by decide +kernel⟩
theorem we_X3_firstWrong : Cond.selects yX3_firstWrong.cls yX3_firstWrong yX3_firstWrong ∈ ax_T := ax_inT ⟨List.mem_of_getElem? (i := 388) (by decide +kernel), by decide +kernel⟩
theorem wc_X3_isComplete : Cond.code yX3_isComplete cX3_isComplete 2 (some .boolean) ∈ ax_T := ax_inT ⟨List.mem_of_getElem? (i := 855) (by decide +kernel), by decide +kernel⟩
theorem wi_X3_isComplete : Cond.instanceMethod yX3_isComplete ∈ ax_T := ax_inT ⟨List.mem_of_getElem? (i := 853) (by decide +kernel), by decide +kernel⟩
theorem we_X3_isComplete : Cond.selects yX3_isComplete.cls yX3_isComplete yX3_isComplete ∈ ax_T := ax_inT ⟨List.mem_of_getElem? (i := 854) (by decide +kernel), by decide +kernel⟩
theorem wc_X3_addPacksTo : Cond.code yX3_addPacksTo cX3_addPacksTo 3 none ∈ ax_T := ax_inT ⟨List.mem_of_getElem? (i := 862) (by decide +kernel), by decide +kernel⟩
theorem wi_X3_addPacksTo : Cond.instanceMethod yX3_addPacksTo ∈ ax_T := ax_inT ⟨List.mem_of_getElem? (i := 860) (by decide +kernel), by decide +kernel⟩
theorem we_X3_addPacksTo : Cond.selects yX3_addPacksTo.cls yX3_addPacksTo yX3_addPacksTo ∈ ax_T := ax_inT ⟨List.mem_of_getElem? (i := 861) (by decide +kernel), by decide +kernel⟩
theorem wc_X4_restart : Cond.code yX4_restart cX4_restart 8 none ∈ ax_T := ax_inT ⟨List.mem_of_getElem? (i := 880) (by decide +kernel), by decide +kernel⟩
theorem wi_X4_restart : Cond.instanceMethod yX4_restart ∈ ax_T := ax_inT ⟨List.mem_of_getElem? (i := 878) (by decide +kernel), by decide +kernel⟩
theorem we_X4_restart : Cond.selects yX4_restart.cls yX4_restart yX4_restart ∈ ax_T := ax_inT ⟨List.mem_of_getElem? (i := 879) (by decide +kernel), by decide +kernel⟩
theorem wc_X4_copyFrom : Cond.code yX4_copyFrom cX4_copyFrom 3 none ∈ ax_T := ax_inT ⟨List.mem_of_getElem? (i := 616) (by decide +kernel), by decide +kernel⟩
theorem wi_X4_copyFrom : Cond.instanceMethod yX4_copyFrom ∈ ax_T := ax_inT ⟨List.mem_of_getElem? (i := 614) (by decide +kernel), by decide +kernel⟩
theorem we_X4_copyFrom : Cond.selects yX4_copyFrom.cls yX4_copyFrom yX4_copyFrom ∈ ax_T := ax_inT ⟨List.mem_of_getElem? (i := 615) (by decide +kernel), by decide +kernel⟩
theorem wc_X4_hasGoodIndex : Cond.code yX4_hasGoodIndex cX4_hasGoodIndex 1 (some .boolean) ∈ ax_T := ax_inT ⟨List.mem_of_getElem? (i := 432) (by decide +kernel), by decide +kernel⟩
theorem wi_X4_hasGoodIndex : Cond.instanceMethod yX4_hasGoodIndex ∈ ax_T := ax_inT ⟨List.mem_of_getElem? (i := 430) (by decide +kernel), by decide +kernel⟩
theorem we_X4_hasGoodIndex : Cond.selects yX4_hasGoodIndex.cls yX4_hasGoodIndex yX4_hasGoodIndex ∈ ax_T := ax_inT ⟨List.mem_of_getElem? (i := 431) (by decide +kernel), by decide +kernel⟩
theorem wc_X4_takeIndex : Cond.code yX4_takeIndex cX4_takeIndex 2 none ∈ ax_T := ax_inT ⟨List.mem_of_getElem? (i := 640) (by decide +kernel), by decide +kernel⟩
theorem wi_X4_takeIndex : Cond.instanceMethod yX4_takeIndex ∈ ax_T := ax_inT ⟨List.mem_of_getElem? (i := 638) (by decide +kernel), by decide +kernel⟩
theorem we_X4_takeIndex : Cond.selects yX4_takeIndex.cls yX4_takeIndex yX4_takeIndex ∈ ax_T := ax_inT ⟨List.mem_of_getElem? (i := 639) (by decide +kernel), by decide +kernel⟩
theorem wc_X4_pullsAt : Cond.code yX4_pullsAt cX4_pullsAt 2 (some .boolean) ∈ ax_T := ax_inT ⟨List.mem_of_getElem? (i := 624) (by decide +kernel), by decide +kernel⟩
theorem wi_X4_pullsAt : Cond.instanceMethod yX4_pullsAt ∈ ax_T := ax_inT ⟨List.mem_of_getElem? (i := 622) (by decide +kernel), by decide +kernel⟩
theorem we_X4_pullsAt : Cond.selects yX4_pullsAt.cls yX4_pullsAt yX4_pullsAt ∈ ax_T := ax_inT ⟨List.mem_of_getElem? (i := 623) (by decide +kernel), by decide +kernel⟩
theorem wc_J9_floorMod : Cond.code yJ9_floorMod_7cf53 cJ9_floorMod_7cf53 3 (some .int) ∈ ax_T := ax_inT ⟨List.mem_of_getElem? (i := 540) (by decide +kernel), by decide +kernel⟩
theorem ws_J9_floorMod : Cond.static yJ9_floorMod_7cf53 ∈ ax_T := ax_inT ⟨List.mem_of_getElem? (i := 539) (by decide +kernel), by decide +kernel⟩
theorem wc_X4_minutesToPull : Cond.code yX4_minutesToPull cX4_minutesToPull 3 (some .int) ∈ ax_T := ax_inT ⟨List.mem_of_getElem? (i := 537) (by decide +kernel), by decide +kernel⟩
theorem wi_X4_minutesToPull : Cond.instanceMethod yX4_minutesToPull ∈ ax_T := ax_inT ⟨List.mem_of_getElem? (i := 535) (by decide +kernel), by decide +kernel⟩
theorem we_X4_minutesToPull : Cond.selects yX4_minutesToPull.cls yX4_minutesToPull yX4_minutesToPull ∈ ax_T := ax_inT ⟨List.mem_of_getElem? (i := 536) (by decide +kernel), by decide +kernel⟩
theorem wc_X4_hasFile : Cond.code yX4_hasFile cX4_hasFile 4 (some .boolean) ∈ ax_T := ax_inT ⟨List.mem_of_getElem? (i := 504) (by decide +kernel), by decide +kernel⟩
theorem wi_X4_hasFile : Cond.instanceMethod yX4_hasFile ∈ ax_T := ax_inT ⟨List.mem_of_getElem? (i := 502) (by decide +kernel), by decide +kernel⟩
theorem we_X4_hasFile : Cond.selects yX4_hasFile.cls yX4_hasFile yX4_hasFile ∈ ax_T := ax_inT ⟨List.mem_of_getElem? (i := 503) (by decide +kernel), by decide +kernel⟩
theorem wc_X4_lacks : Cond.code yX4_lacks cX4_lacks 5 (some .boolean) ∈ ax_T := ax_inT ⟨List.mem_of_getElem? (i := 470) (by decide +kernel), by decide +kernel⟩
theorem wi_X4_lacks : Cond.instanceMethod yX4_lacks ∈ ax_T := ax_inT ⟨List.mem_of_getElem? (i := 468) (by decide +kernel), by decide +kernel⟩
theorem we_X4_lacks : Cond.selects yX4_lacks.cls yX4_lacks yX4_lacks ∈ ax_T := ax_inT ⟨List.mem_of_getElem? (i := 469) (by decide +kernel), by decide +kernel⟩
theorem wc_X4_addFile : Cond.code yX4_addFile cX4_addFile 3 none ∈ ax_T := ax_inT ⟨List.mem_of_getElem? (i := 648) (by decide +kernel), by decide +kernel⟩
theorem wi_X4_addFile : Cond.instanceMethod yX4_addFile ∈ ax_T := ax_inT ⟨List.mem_of_getElem? (i := 646) (by decide +kernel), by decide +kernel⟩
theorem we_X4_addFile : Cond.selects yX4_addFile.cls yX4_addFile yX4_addFile ∈ ax_T := ax_inT ⟨List.mem_of_getElem? (i := 647) (by decide +kernel), by decide +kernel⟩
theorem wc_X4_dropFile : Cond.code yX4_dropFile cX4_dropFile 3 none ∈ ax_T := ax_inT ⟨List.mem_of_getElem? (i := 906) (by decide +kernel), by decide +kernel⟩
theorem wi_X4_dropFile : Cond.instanceMethod yX4_dropFile ∈ ax_T := ax_inT ⟨List.mem_of_getElem? (i := 904) (by decide +kernel), by decide +kernel⟩
theorem we_X4_dropFile : Cond.selects yX4_dropFile.cls yX4_dropFile yX4_dropFile ∈ ax_T := ax_inT ⟨List.mem_of_getElem? (i := 905) (by decide +kernel), by decide +kernel⟩
theorem wc_X4_dropOtherVersions : Cond.code yX4_dropOtherVersions cX4_dropOtherVersions 3 none ∈ ax_T := ax_inT ⟨List.mem_of_getElem? (i := 656) (by decide +kernel), by decide +kernel⟩
theorem wi_X4_dropOtherVersions : Cond.instanceMethod yX4_dropOtherVersions ∈ ax_T := ax_inT ⟨List.mem_of_getElem? (i := 654) (by decide +kernel), by decide +kernel⟩
theorem we_X4_dropOtherVersions : Cond.selects yX4_dropOtherVersions.cls yX4_dropOtherVersions yX4_dropOtherVersions ∈ ax_T := ax_inT ⟨List.mem_of_getElem? (i := 655) (by decide +kernel), by decide +kernel⟩
theorem wc_J6_bitCount : Cond.code yJ6_bitCount_0f7a4 cJ6_bitCount_0f7a4 1 (some .int) ∈ ax_T := ax_inT ⟨List.mem_of_getElem? (i := 481) (by decide +kernel), by decide +kernel⟩
theorem ws_J6_bitCount : Cond.static yJ6_bitCount_0f7a4 ∈ ax_T := ax_inT ⟨List.mem_of_getElem? (i := 480) (by decide +kernel), by decide +kernel⟩
theorem wc_X4_fileCount : Cond.code yX4_fileCount cX4_fileCount 3 (some .int) ∈ ax_T := ax_inT ⟨List.mem_of_getElem? (i := 478) (by decide +kernel), by decide +kernel⟩
theorem wi_X4_fileCount : Cond.instanceMethod yX4_fileCount ∈ ax_T := ax_inT ⟨List.mem_of_getElem? (i := 476) (by decide +kernel), by decide +kernel⟩
theorem we_X4_fileCount : Cond.selects yX4_fileCount.cls yX4_fileCount yX4_fileCount ∈ ax_T := ax_inT ⟨List.mem_of_getElem? (i := 477) (by decide +kernel), by decide +kernel⟩
theorem wc_X5_restart : Cond.code yX5_restart cX5_restart 1 none ∈ ax_T := ax_inT ⟨List.mem_of_getElem? (i := 740) (by decide +kernel), by decide +kernel⟩
theorem wi_X5_restart : Cond.instanceMethod yX5_restart ∈ ax_T := ax_inT ⟨List.mem_of_getElem? (i := 738) (by decide +kernel), by decide +kernel⟩
theorem we_X5_restart : Cond.selects yX5_restart.cls yX5_restart yX5_restart ∈ ax_T := ax_inT ⟨List.mem_of_getElem? (i := 739) (by decide +kernel), by decide +kernel⟩
theorem wc_X5_copyFrom : Cond.code yX5_copyFrom cX5_copyFrom 3 none ∈ ax_T := ax_inT ⟨List.mem_of_getElem? (i := 612) (by decide +kernel), by decide +kernel⟩
theorem wi_X5_copyFrom : Cond.instanceMethod yX5_copyFrom ∈ ax_T := ax_inT ⟨List.mem_of_getElem? (i := 610) (by decide +kernel), by decide +kernel⟩
theorem we_X5_copyFrom : Cond.selects yX5_copyFrom.cls yX5_copyFrom yX5_copyFrom ∈ ax_T := ax_inT ⟨List.mem_of_getElem? (i := 611) (by decide +kernel), by decide +kernel⟩
theorem wc_X5_upstreamOf : Cond.code yX5_upstreamOf cX5_upstreamOf 2 (some (.object "ArchiveMirrors$Mirror")) ∈ ax_T := ax_inT ⟨List.mem_of_getElem? (i := 636) (by decide +kernel), by decide +kernel⟩
theorem wi_X5_upstreamOf : Cond.instanceMethod yX5_upstreamOf ∈ ax_T := ax_inT ⟨List.mem_of_getElem? (i := 635) (by decide +kernel), by decide +kernel⟩
theorem we_X5_upstreamOf : Cond.selects yX5_upstreamOf.cls yX5_upstreamOf yX5_upstreamOf ∈ ax_T := ax_inT ⟨List.mem_of_getElem? (i := 22) (by decide +kernel), by decide +kernel⟩
theorem wc_X5_offeredTo : Cond.code yX5_offeredTo cX5_offeredTo 3 (some .int) ∈ ax_T := ax_inT ⟨List.mem_of_getElem? (i := 632) (by decide +kernel), by decide +kernel⟩
theorem wi_X5_offeredTo : Cond.instanceMethod yX5_offeredTo ∈ ax_T := ax_inT ⟨List.mem_of_getElem? (i := 631) (by decide +kernel), by decide +kernel⟩
theorem we_X5_offeredTo : Cond.selects yX5_offeredTo.cls yX5_offeredTo yX5_offeredTo ∈ ax_T := ax_inT ⟨List.mem_of_getElem? (i := 21) (by decide +kernel), by decide +kernel⟩
theorem wc_X5_copyMissing : Cond.code yX5_copyMissing cX5_copyMissing 9 none ∈ ax_T := ax_inT ⟨List.mem_of_getElem? (i := 644) (by decide +kernel), by decide +kernel⟩
theorem wi_X5_copyMissing : Cond.instanceMethod yX5_copyMissing ∈ ax_T := ax_inT ⟨List.mem_of_getElem? (i := 643) (by decide +kernel), by decide +kernel⟩
theorem we_X5_copyMissing : Cond.selects yX5_copyMissing.cls yX5_copyMissing yX5_copyMissing ∈ ax_T := ax_inT ⟨List.mem_of_getElem? (i := 23) (by decide +kernel), by decide +kernel⟩
theorem wc_X5_missingOf : Cond.code yX5_missingOf cX5_missingOf 5 (some .int) ∈ ax_T := ax_inT ⟨List.mem_of_getElem? (i := 462) (by decide +kernel), by decide +kernel⟩
theorem wi_X5_missingOf : Cond.instanceMethod yX5_missingOf ∈ ax_T := ax_inT ⟨List.mem_of_getElem? (i := 461) (by decide +kernel), by decide +kernel⟩
theorem we_X5_missingOf : Cond.selects yX5_missingOf.cls yX5_missingOf yX5_missingOf ∈ ax_T := ax_inT ⟨List.mem_of_getElem? (i := 8) (by decide +kernel), by decide +kernel⟩
theorem wc_X5_dropOldFiles : Cond.code yX5_dropOldFiles cX5_dropOldFiles 3 none ∈ ax_T := ax_inT ⟨List.mem_of_getElem? (i := 652) (by decide +kernel), by decide +kernel⟩
theorem wi_X5_dropOldFiles : Cond.instanceMethod yX5_dropOldFiles ∈ ax_T := ax_inT ⟨List.mem_of_getElem? (i := 651) (by decide +kernel), by decide +kernel⟩
theorem we_X5_dropOldFiles : Cond.selects yX5_dropOldFiles.cls yX5_dropOldFiles yX5_dropOldFiles ∈ ax_T := ax_inT ⟨List.mem_of_getElem? (i := 24) (by decide +kernel), by decide +kernel⟩
theorem wc_X5_pull : Cond.code yX5_pull cX5_pull 4 none ∈ ax_T := ax_inT ⟨List.mem_of_getElem? (i := 628) (by decide +kernel), by decide +kernel⟩
theorem wi_X5_pull : Cond.instanceMethod yX5_pull ∈ ax_T := ax_inT ⟨List.mem_of_getElem? (i := 627) (by decide +kernel), by decide +kernel⟩
theorem we_X5_pull : Cond.selects yX5_pull.cls yX5_pull yX5_pull ∈ ax_T := ax_inT ⟨List.mem_of_getElem? (i := 20) (by decide +kernel), by decide +kernel⟩
theorem wc_X5_passMinute : Cond.code yX5_passMinute cX5_passMinute 2 none ∈ ax_T := ax_inT ⟨List.mem_of_getElem? (i := 620) (by decide +kernel), by decide +kernel⟩
theorem wi_X5_passMinute : Cond.instanceMethod yX5_passMinute ∈ ax_T := ax_inT ⟨List.mem_of_getElem? (i := 618) (by decide +kernel), by decide +kernel⟩
theorem we_X5_passMinute : Cond.selects yX5_passMinute.cls yX5_passMinute yX5_passMinute ∈ ax_T := ax_inT ⟨List.mem_of_getElem? (i := 619) (by decide +kernel), by decide +kernel⟩
theorem wc_X5_isComplete : Cond.code yX5_isComplete cX5_isComplete 2 (some .boolean) ∈ ax_T := ax_inT ⟨List.mem_of_getElem? (i := 457) (by decide +kernel), by decide +kernel⟩
theorem wi_X5_isComplete : Cond.instanceMethod yX5_isComplete ∈ ax_T := ax_inT ⟨List.mem_of_getElem? (i := 456) (by decide +kernel), by decide +kernel⟩
theorem we_X5_isComplete : Cond.selects yX5_isComplete.cls yX5_isComplete yX5_isComplete ∈ ax_T := ax_inT ⟨List.mem_of_getElem? (i := 7) (by decide +kernel), by decide +kernel⟩
theorem wc_X5_completeMirrors : Cond.code yX5_completeMirrors cX5_completeMirrors 3 (some .int) ∈ ax_T := ax_inT ⟨List.mem_of_getElem? (i := 453) (by decide +kernel), by decide +kernel⟩
theorem wi_X5_completeMirrors : Cond.instanceMethod yX5_completeMirrors ∈ ax_T := ax_inT ⟨List.mem_of_getElem? (i := 451) (by decide +kernel), by decide +kernel⟩
theorem we_X5_completeMirrors : Cond.selects yX5_completeMirrors.cls yX5_completeMirrors yX5_completeMirrors ∈ ax_T := ax_inT ⟨List.mem_of_getElem? (i := 452) (by decide +kernel), by decide +kernel⟩
theorem wc_X5_fileCount : Cond.code yX5_fileCount cX5_fileCount 3 (some .int) ∈ ax_T := ax_inT ⟨List.mem_of_getElem? (i := 474) (by decide +kernel), by decide +kernel⟩
theorem wi_X5_fileCount : Cond.instanceMethod yX5_fileCount ∈ ax_T := ax_inT ⟨List.mem_of_getElem? (i := 472) (by decide +kernel), by decide +kernel⟩
theorem we_X5_fileCount : Cond.selects yX5_fileCount.cls yX5_fileCount yX5_fileCount ∈ ax_T := ax_inT ⟨List.mem_of_getElem? (i := 473) (by decide +kernel), by decide +kernel⟩
theorem wc_X5_mirrorsWith : Cond.code yX5_mirrorsWith cX5_mirrorsWith 5 (some .int) ∈ ax_T := ax_inT ⟨List.mem_of_getElem? (i := 500) (by decide +kernel), by decide +kernel⟩
theorem wi_X5_mirrorsWith : Cond.instanceMethod yX5_mirrorsWith ∈ ax_T := ax_inT ⟨List.mem_of_getElem? (i := 498) (by decide +kernel), by decide +kernel⟩
theorem we_X5_mirrorsWith : Cond.selects yX5_mirrorsWith.cls yX5_mirrorsWith yX5_mirrorsWith ∈ ax_T := ax_inT ⟨List.mem_of_getElem? (i := 499) (by decide +kernel), by decide +kernel⟩
theorem wc_X5_propertyOf : Cond.code yX5_propertyOf cX5_propertyOf 4 (some .int) ∈ ax_T := ax_inT ⟨List.mem_of_getElem? (i := 533) (by decide +kernel), by decide +kernel⟩
theorem wi_X5_propertyOf : Cond.instanceMethod yX5_propertyOf ∈ ax_T := ax_inT ⟨List.mem_of_getElem? (i := 531) (by decide +kernel), by decide +kernel⟩
theorem we_X5_propertyOf : Cond.selects yX5_propertyOf.cls yX5_propertyOf yX5_propertyOf ∈ ax_T := ax_inT ⟨List.mem_of_getElem? (i := 532) (by decide +kernel), by decide +kernel⟩
theorem wc_J9_max : Cond.code yJ9_max_7cf53 cJ9_max_7cf53 2 (some .int) ∈ ax_T := ax_inT ⟨List.mem_of_getElem? (i := 573) (by decide +kernel), by decide +kernel⟩
theorem ws_J9_max : Cond.static yJ9_max_7cf53 ∈ ax_T := ax_inT ⟨List.mem_of_getElem? (i := 572) (by decide +kernel), by decide +kernel⟩
theorem wc_X5_latestFreshIndex : Cond.code yX5_latestFreshIndex cX5_latestFreshIndex 5 (some .int) ∈ ax_T := ax_inT ⟨List.mem_of_getElem? (i := 569) (by decide +kernel), by decide +kernel⟩
theorem wi_X5_latestFreshIndex : Cond.instanceMethod yX5_latestFreshIndex ∈ ax_T := ax_inT ⟨List.mem_of_getElem? (i := 567) (by decide +kernel), by decide +kernel⟩
theorem we_X5_latestFreshIndex : Cond.selects yX5_latestFreshIndex.cls yX5_latestFreshIndex yX5_latestFreshIndex ∈ ax_T := ax_inT ⟨List.mem_of_getElem? (i := 568) (by decide +kernel), by decide +kernel⟩
theorem wc_X5_foundAt : Cond.code yX5_foundAt cX5_foundAt 6 (some .int) ∈ ax_T := ax_inT ⟨List.mem_of_getElem? (i := 577) (by decide +kernel), by decide +kernel⟩
theorem wi_X5_foundAt : Cond.instanceMethod yX5_foundAt ∈ ax_T := ax_inT ⟨List.mem_of_getElem? (i := 575) (by decide +kernel), by decide +kernel⟩
theorem we_X5_foundAt : Cond.selects yX5_foundAt.cls yX5_foundAt yX5_foundAt ∈ ax_T := ax_inT ⟨List.mem_of_getElem? (i := 576) (by decide +kernel), by decide +kernel⟩
theorem wc_X7_foundTogether : Cond.code yX7_foundTogether cX7_foundTogether 4 (some .int) ∈ ax_T := ax_inT ⟨List.mem_of_getElem? (i := 587) (by decide +kernel), by decide +kernel⟩
theorem wi_X7_foundTogether : Cond.instanceMethod yX7_foundTogether ∈ ax_T := ax_inT ⟨List.mem_of_getElem? (i := 586) (by decide +kernel), by decide +kernel⟩
theorem we_X7_foundTogether : Cond.selects yX7_foundTogether.cls yX7_foundTogether yX7_foundTogether ∈ ax_T := ax_inT ⟨List.mem_of_getElem? (i := 17) (by decide +kernel), by decide +kernel⟩
theorem wc_X7_reasonFor : Cond.code yX7_reasonFor cX7_reasonFor 2 (some .int) ∈ ax_T := ax_inT ⟨List.mem_of_getElem? (i := 581) (by decide +kernel), by decide +kernel⟩
theorem wi_X7_reasonFor : Cond.instanceMethod yX7_reasonFor ∈ ax_T := ax_inT ⟨List.mem_of_getElem? (i := 580) (by decide +kernel), by decide +kernel⟩
theorem we_X7_reasonFor : Cond.selects yX7_reasonFor.cls yX7_reasonFor yX7_reasonFor ∈ ax_T := ax_inT ⟨List.mem_of_getElem? (i := 16) (by decide +kernel), by decide +kernel⟩
theorem wc_X7_draw : Cond.code yX7_draw cX7_draw 6 none ∈ ax_T := ax_inT ⟨List.mem_of_getElem? (i := 560) (by decide +kernel), by decide +kernel⟩
theorem wi_X7_draw : Cond.instanceMethod yX7_draw ∈ ax_T := ax_inT ⟨List.mem_of_getElem? (i := 558) (by decide +kernel), by decide +kernel⟩
theorem we_X7_draw : Cond.selects yX7_draw.cls yX7_draw yX7_draw ∈ ax_T := ax_inT ⟨List.mem_of_getElem? (i := 559) (by decide +kernel), by decide +kernel⟩
theorem wc_X7_carryOut : Cond.code yX7_carryOut cX7_carryOut 3 none ∈ ax_T := ax_inT ⟨List.mem_of_getElem? (i := 962) (by decide +kernel), by decide +kernel⟩
theorem wi_X7_carryOut : Cond.instanceMethod yX7_carryOut ∈ ax_T := ax_inT ⟨List.mem_of_getElem? (i := 960) (by decide +kernel), by decide +kernel⟩
theorem we_X7_carryOut : Cond.selects yX7_carryOut.cls yX7_carryOut yX7_carryOut ∈ ax_T := ax_inT ⟨List.mem_of_getElem? (i := 961) (by decide +kernel), by decide +kernel⟩
theorem wc_X7_changedSize : Cond.code yX7_changedSize cX7_changedSize 4 (some .int) ∈ ax_T := ax_inT ⟨List.mem_of_getElem? (i := 595) (by decide +kernel), by decide +kernel⟩
theorem wi_X7_changedSize : Cond.instanceMethod yX7_changedSize ∈ ax_T := ax_inT ⟨List.mem_of_getElem? (i := 593) (by decide +kernel), by decide +kernel⟩
theorem we_X7_changedSize : Cond.selects yX7_changedSize.cls yX7_changedSize yX7_changedSize ∈ ax_T := ax_inT ⟨List.mem_of_getElem? (i := 594) (by decide +kernel), by decide +kernel⟩
theorem wc_J9_min : Cond.code yJ9_min_7cf53 cJ9_min_7cf53 2 (some .int) ∈ ax_T := ax_inT ⟨List.mem_of_getElem? (i := 604) (by decide +kernel), by decide +kernel⟩
theorem ws_J9_min : Cond.static yJ9_min_7cf53 ∈ ax_T := ax_inT ⟨List.mem_of_getElem? (i := 603) (by decide +kernel), by decide +kernel⟩
theorem wc_X7_fewestMirrors : Cond.code yX7_fewestMirrors cX7_fewestMirrors 5 (some .int) ∈ ax_T := ax_inT ⟨List.mem_of_getElem? (i := 600) (by decide +kernel), by decide +kernel⟩
theorem wi_X7_fewestMirrors : Cond.instanceMethod yX7_fewestMirrors ∈ ax_T := ax_inT ⟨List.mem_of_getElem? (i := 598) (by decide +kernel), by decide +kernel⟩
theorem we_X7_fewestMirrors : Cond.selects yX7_fewestMirrors.cls yX7_fewestMirrors yX7_fewestMirrors ∈ ax_T := ax_inT ⟨List.mem_of_getElem? (i := 599) (by decide +kernel), by decide +kernel⟩
theorem wc_X9_begin : Cond.code yX9_begin cX9_begin 3 (some .int) ∈ ax_T := ax_inT ⟨List.mem_of_getElem? (i := 664) (by decide +kernel), by decide +kernel⟩
theorem wi_X9_begin : Cond.instanceMethod yX9_begin ∈ ax_T := ax_inT ⟨List.mem_of_getElem? (i := 662) (by decide +kernel), by decide +kernel⟩
theorem we_X9_begin : Cond.selects yX9_begin.cls yX9_begin yX9_begin ∈ ax_T := ax_inT ⟨List.mem_of_getElem? (i := 663) (by decide +kernel), by decide +kernel⟩
theorem wc_X9_requirePackages : Cond.code yX9_requirePackages cX9_requirePackages 2 none ∈ ax_T := ax_inT ⟨List.mem_of_getElem? (i := 770) (by decide +kernel), by decide +kernel⟩
theorem wi_X9_requirePackages : Cond.instanceMethod yX9_requirePackages ∈ ax_T := ax_inT ⟨List.mem_of_getElem? (i := 769) (by decide +kernel), by decide +kernel⟩
theorem we_X9_requirePackages : Cond.selects yX9_requirePackages.cls yX9_requirePackages yX9_requirePackages ∈ ax_T := ax_inT ⟨List.mem_of_getElem? (i := 26) (by decide +kernel), by decide +kernel⟩
theorem wc_X9_addPackage : Cond.code yX9_addPackage cX9_addPackage 4 (some .int) ∈ ax_T := ax_inT ⟨List.mem_of_getElem? (i := 749) (by decide +kernel), by decide +kernel⟩
theorem wi_X9_addPackage : Cond.instanceMethod yX9_addPackage ∈ ax_T := ax_inT ⟨List.mem_of_getElem? (i := 747) (by decide +kernel), by decide +kernel⟩
theorem we_X9_addPackage : Cond.selects yX9_addPackage.cls yX9_addPackage yX9_addPackage ∈ ax_T := ax_inT ⟨List.mem_of_getElem? (i := 748) (by decide +kernel), by decide +kernel⟩
theorem wc_X9_requirePackage : Cond.code yX9_requirePackage cX9_requirePackage 2 none ∈ ax_T := ax_inT ⟨List.mem_of_getElem? (i := 804) (by decide +kernel), by decide +kernel⟩
theorem wi_X9_requirePackage : Cond.instanceMethod yX9_requirePackage ∈ ax_T := ax_inT ⟨List.mem_of_getElem? (i := 803) (by decide +kernel), by decide +kernel⟩
theorem we_X9_requirePackage : Cond.selects yX9_requirePackage.cls yX9_requirePackage yX9_requirePackage ∈ ax_T := ax_inT ⟨List.mem_of_getElem? (i := 27) (by decide +kernel), by decide +kernel⟩
theorem wc_X9_publish : Cond.code yX9_publish cX9_publish 2 (some .int) ∈ ax_T := ax_inT ⟨List.mem_of_getElem? (i := 800) (by decide +kernel), by decide +kernel⟩
theorem wi_X9_publish : Cond.instanceMethod yX9_publish ∈ ax_T := ax_inT ⟨List.mem_of_getElem? (i := 798) (by decide +kernel), by decide +kernel⟩
theorem we_X9_publish : Cond.selects yX9_publish.cls yX9_publish yX9_publish ∈ ax_T := ax_inT ⟨List.mem_of_getElem? (i := 799) (by decide +kernel), by decide +kernel⟩
theorem wc_X9_release : Cond.code yX9_release cX9_release 1 (some .int) ∈ ax_T := ax_inT ⟨List.mem_of_getElem? (i := 813) (by decide +kernel), by decide +kernel⟩
theorem wi_X9_release : Cond.instanceMethod yX9_release ∈ ax_T := ax_inT ⟨List.mem_of_getElem? (i := 811) (by decide +kernel), by decide +kernel⟩
theorem we_X9_release : Cond.selects yX9_release.cls yX9_release yX9_release ∈ ax_T := ax_inT ⟨List.mem_of_getElem? (i := 812) (by decide +kernel), by decide +kernel⟩
theorem wc_X9_setValidity : Cond.code yX9_setValidity cX9_setValidity 3 (some .int) ∈ ax_T := ax_inT ⟨List.mem_of_getElem? (i := 830) (by decide +kernel), by decide +kernel⟩
theorem wi_X9_setValidity : Cond.instanceMethod yX9_setValidity ∈ ax_T := ax_inT ⟨List.mem_of_getElem? (i := 828) (by decide +kernel), by decide +kernel⟩
theorem we_X9_setValidity : Cond.selects yX9_setValidity.cls yX9_setValidity yX9_setValidity ∈ ax_T := ax_inT ⟨List.mem_of_getElem? (i := 829) (by decide +kernel), by decide +kernel⟩
theorem wc_X9_append : Cond.code yX9_append cX9_append 2 (some .int) ∈ ax_T := ax_inT ⟨List.mem_of_getElem? (i := 838) (by decide +kernel), by decide +kernel⟩
theorem wi_X9_append : Cond.instanceMethod yX9_append ∈ ax_T := ax_inT ⟨List.mem_of_getElem? (i := 836) (by decide +kernel), by decide +kernel⟩
theorem we_X9_append : Cond.selects yX9_append.cls yX9_append yX9_append ∈ ax_T := ax_inT ⟨List.mem_of_getElem? (i := 837) (by decide +kernel), by decide +kernel⟩
theorem wc_X9_clearInput : Cond.code yX9_clearInput cX9_clearInput 2 (some .int) ∈ ax_T := ax_inT ⟨List.mem_of_getElem? (i := 381) (by decide +kernel), by decide +kernel⟩
theorem wi_X9_clearInput : Cond.instanceMethod yX9_clearInput ∈ ax_T := ax_inT ⟨List.mem_of_getElem? (i := 379) (by decide +kernel), by decide +kernel⟩
theorem we_X9_clearInput : Cond.selects yX9_clearInput.cls yX9_clearInput yX9_clearInput ∈ ax_T := ax_inT ⟨List.mem_of_getElem? (i := 380) (by decide +kernel), by decide +kernel⟩
theorem wc_X9_firstError : Cond.code yX9_firstError cX9_firstError 1 (some .int) ∈ ax_T := ax_inT ⟨List.mem_of_getElem? (i := 385) (by decide +kernel), by decide +kernel⟩
theorem wi_X9_firstError : Cond.instanceMethod yX9_firstError ∈ ax_T := ax_inT ⟨List.mem_of_getElem? (i := 383) (by decide +kernel), by decide +kernel⟩
theorem we_X9_firstError : Cond.selects yX9_firstError.cls yX9_firstError yX9_firstError ∈ ax_T := ax_inT ⟨List.mem_of_getElem? (i := 384) (by decide +kernel), by decide +kernel⟩
theorem wc_X9_load : Cond.code yX9_load cX9_load 2 (some .int) ∈ ax_T := ax_inT ⟨List.mem_of_getElem? (i := 851) (by decide +kernel), by decide +kernel⟩
theorem wi_X9_load : Cond.instanceMethod yX9_load ∈ ax_T := ax_inT ⟨List.mem_of_getElem? (i := 849) (by decide +kernel), by decide +kernel⟩
theorem we_X9_load : Cond.selects yX9_load.cls yX9_load yX9_load ∈ ax_T := ax_inT ⟨List.mem_of_getElem? (i := 850) (by decide +kernel), by decide +kernel⟩
theorem wc_X9_addMirror : Cond.code yX9_addMirror cX9_addMirror 8 (some .int) ∈ ax_T := ax_inT ⟨List.mem_of_getElem? (i := 870) (by decide +kernel), by decide +kernel⟩
theorem wi_X9_addMirror : Cond.instanceMethod yX9_addMirror ∈ ax_T := ax_inT ⟨List.mem_of_getElem? (i := 868) (by decide +kernel), by decide +kernel⟩
theorem we_X9_addMirror : Cond.selects yX9_addMirror.cls yX9_addMirror yX9_addMirror ∈ ax_T := ax_inT ⟨List.mem_of_getElem? (i := 869) (by decide +kernel), by decide +kernel⟩
theorem wc_X9_requireMirror : Cond.code yX9_requireMirror cX9_requireMirror 2 none ∈ ax_T := ax_inT ⟨List.mem_of_getElem? (i := 891) (by decide +kernel), by decide +kernel⟩
theorem wi_X9_requireMirror : Cond.instanceMethod yX9_requireMirror ∈ ax_T := ax_inT ⟨List.mem_of_getElem? (i := 890) (by decide +kernel), by decide +kernel⟩
theorem we_X9_requireMirror : Cond.selects yX9_requireMirror.cls yX9_requireMirror yX9_requireMirror ∈ ax_T := ax_inT ⟨List.mem_of_getElem? (i := 28) (by decide +kernel), by decide +kernel⟩
theorem wc_X9_tamper : Cond.code yX9_tamper cX9_tamper 3 (some .int) ∈ ax_T := ax_inT ⟨List.mem_of_getElem? (i := 887) (by decide +kernel), by decide +kernel⟩
theorem wi_X9_tamper : Cond.instanceMethod yX9_tamper ∈ ax_T := ax_inT ⟨List.mem_of_getElem? (i := 885) (by decide +kernel), by decide +kernel⟩
theorem we_X9_tamper : Cond.selects yX9_tamper.cls yX9_tamper yX9_tamper ∈ ax_T := ax_inT ⟨List.mem_of_getElem? (i := 886) (by decide +kernel), by decide +kernel⟩
theorem wc_X9_removeFile : Cond.code yX9_removeFile cX9_removeFile 5 (some .int) ∈ ax_T := ax_inT ⟨List.mem_of_getElem? (i := 900) (by decide +kernel), by decide +kernel⟩
theorem wi_X9_removeFile : Cond.instanceMethod yX9_removeFile ∈ ax_T := ax_inT ⟨List.mem_of_getElem? (i := 898) (by decide +kernel), by decide +kernel⟩
theorem we_X9_removeFile : Cond.selects yX9_removeFile.cls yX9_removeFile yX9_removeFile ∈ ax_T := ax_inT ⟨List.mem_of_getElem? (i := 899) (by decide +kernel), by decide +kernel⟩
theorem wc_X9_pass : Cond.code yX9_pass cX9_pass 4 (some .int) ∈ ax_T := ax_inT ⟨List.mem_of_getElem? (i := 914) (by decide +kernel), by decide +kernel⟩
theorem wi_X9_pass : Cond.instanceMethod yX9_pass ∈ ax_T := ax_inT ⟨List.mem_of_getElem? (i := 912) (by decide +kernel), by decide +kernel⟩
theorem we_X9_pass : Cond.selects yX9_pass.cls yX9_pass yX9_pass ∈ ax_T := ax_inT ⟨List.mem_of_getElem? (i := 913) (by decide +kernel), by decide +kernel⟩
theorem wc_X9_requireKind : Cond.code yX9_requireKind cX9_requireKind 2 none ∈ ax_T := ax_inT ⟨List.mem_of_getElem? (i := 925) (by decide +kernel), by decide +kernel⟩
theorem ws_X9_requireKind : Cond.static yX9_requireKind ∈ ax_T := ax_inT ⟨List.mem_of_getElem? (i := 924) (by decide +kernel), by decide +kernel⟩
theorem wc_X9_mirror : Cond.code yX9_mirror cX9_mirror 3 (some .int) ∈ ax_T := ax_inT ⟨List.mem_of_getElem? (i := 922) (by decide +kernel), by decide +kernel⟩
theorem wi_X9_mirror : Cond.instanceMethod yX9_mirror ∈ ax_T := ax_inT ⟨List.mem_of_getElem? (i := 920) (by decide +kernel), by decide +kernel⟩
theorem we_X9_mirror : Cond.selects yX9_mirror.cls yX9_mirror yX9_mirror ∈ ax_T := ax_inT ⟨List.mem_of_getElem? (i := 921) (by decide +kernel), by decide +kernel⟩
theorem wc_X9_files : Cond.code yX9_files cX9_files 3 (some .int) ∈ ax_T := ax_inT ⟨List.mem_of_getElem? (i := 933) (by decide +kernel), by decide +kernel⟩
theorem wi_X9_files : Cond.instanceMethod yX9_files ∈ ax_T := ax_inT ⟨List.mem_of_getElem? (i := 931) (by decide +kernel), by decide +kernel⟩
theorem we_X9_files : Cond.selects yX9_files.cls yX9_files yX9_files ∈ ax_T := ax_inT ⟨List.mem_of_getElem? (i := 932) (by decide +kernel), by decide +kernel⟩
theorem wc_X9_addClient : Cond.code yX9_addClient cX9_addClient 3 (some .int) ∈ ax_T := ax_inT ⟨List.mem_of_getElem? (i := 940) (by decide +kernel), by decide +kernel⟩
theorem wi_X9_addClient : Cond.instanceMethod yX9_addClient ∈ ax_T := ax_inT ⟨List.mem_of_getElem? (i := 938) (by decide +kernel), by decide +kernel⟩
theorem we_X9_addClient : Cond.selects yX9_addClient.cls yX9_addClient yX9_addClient ∈ ax_T := ax_inT ⟨List.mem_of_getElem? (i := 939) (by decide +kernel), by decide +kernel⟩
theorem wc_X9_requireClient : Cond.code yX9_requireClient cX9_requireClient 2 none ∈ ax_T := ax_inT ⟨List.mem_of_getElem? (i := 957) (by decide +kernel), by decide +kernel⟩
theorem wi_X9_requireClient : Cond.instanceMethod yX9_requireClient ∈ ax_T := ax_inT ⟨List.mem_of_getElem? (i := 956) (by decide +kernel), by decide +kernel⟩
theorem we_X9_requireClient : Cond.selects yX9_requireClient.cls yX9_requireClient yX9_requireClient ∈ ax_T := ax_inT ⟨List.mem_of_getElem? (i := 29) (by decide +kernel), by decide +kernel⟩
theorem wc_X9_install : Cond.code yX9_install cX9_install 3 (some .int) ∈ ax_T := ax_inT ⟨List.mem_of_getElem? (i := 953) (by decide +kernel), by decide +kernel⟩
theorem wi_X9_install : Cond.instanceMethod yX9_install ∈ ax_T := ax_inT ⟨List.mem_of_getElem? (i := 951) (by decide +kernel), by decide +kernel⟩
theorem we_X9_install : Cond.selects yX9_install.cls yX9_install yX9_install ∈ ax_T := ax_inT ⟨List.mem_of_getElem? (i := 952) (by decide +kernel), by decide +kernel⟩
theorem wc_X9_planned : Cond.code yX9_planned cX9_planned 3 (some .int) ∈ ax_T := ax_inT ⟨List.mem_of_getElem? (i := 591) (by decide +kernel), by decide +kernel⟩
theorem wi_X9_planned : Cond.instanceMethod yX9_planned ∈ ax_T := ax_inT ⟨List.mem_of_getElem? (i := 590) (by decide +kernel), by decide +kernel⟩
theorem we_X9_planned : Cond.selects yX9_planned.cls yX9_planned yX9_planned ∈ ax_T := ax_inT ⟨List.mem_of_getElem? (i := 18) (by decide +kernel), by decide +kernel⟩
theorem wc_X9_ifInstalled : Cond.code yX9_ifInstalled cX9_ifInstalled 4 (some .int) ∈ ax_T := ax_inT ⟨List.mem_of_getElem? (i := 969) (by decide +kernel), by decide +kernel⟩
theorem wi_X9_ifInstalled : Cond.instanceMethod yX9_ifInstalled ∈ ax_T := ax_inT ⟨List.mem_of_getElem? (i := 967) (by decide +kernel), by decide +kernel⟩
theorem we_X9_ifInstalled : Cond.selects yX9_ifInstalled.cls yX9_ifInstalled yX9_ifInstalled ∈ ax_T := ax_inT ⟨List.mem_of_getElem? (i := 968) (by decide +kernel), by decide +kernel⟩
theorem wc_X9_minutesToAcceptance : Cond.code yX9_minutesToAcceptance cX9_minutesToAcceptance 4 (some .int) ∈ ax_T := ax_inT ⟨List.mem_of_getElem? (i := 608) (by decide +kernel), by decide +kernel⟩
theorem wi_X9_minutesToAcceptance : Cond.instanceMethod yX9_minutesToAcceptance ∈ ax_T := ax_inT ⟨List.mem_of_getElem? (i := 607) (by decide +kernel), by decide +kernel⟩
theorem we_X9_minutesToAcceptance : Cond.selects yX9_minutesToAcceptance.cls yX9_minutesToAcceptance yX9_minutesToAcceptance ∈ ax_T := ax_inT ⟨List.mem_of_getElem? (i := 19) (by decide +kernel), by decide +kernel⟩
theorem wc_X9_until : Cond.code yX9_until cX9_until 3 (some .int) ∈ ax_T := ax_inT ⟨List.mem_of_getElem? (i := 976) (by decide +kernel), by decide +kernel⟩
theorem wi_X9_until : Cond.instanceMethod yX9_until ∈ ax_T := ax_inT ⟨List.mem_of_getElem? (i := 974) (by decide +kernel), by decide +kernel⟩
theorem we_X9_until : Cond.selects yX9_until.cls yX9_until yX9_until ∈ ax_T := ax_inT ⟨List.mem_of_getElem? (i := 975) (by decide +kernel), by decide +kernel⟩
theorem wc_X9_client : Cond.code yX9_client cX9_client 3 (some .int) ∈ ax_T := ax_inT ⟨List.mem_of_getElem? (i := 983) (by decide +kernel), by decide +kernel⟩
theorem wi_X9_client : Cond.instanceMethod yX9_client ∈ ax_T := ax_inT ⟨List.mem_of_getElem? (i := 981) (by decide +kernel), by decide +kernel⟩
theorem we_X9_client : Cond.selects yX9_client.cls yX9_client yX9_client ∈ ax_T := ax_inT ⟨List.mem_of_getElem? (i := 982) (by decide +kernel), by decide +kernel⟩
theorem wc_X9_counted : Cond.code yX9_counted cX9_counted 2 (some .int) ∈ ax_T := ax_inT ⟨List.mem_of_getElem? (i := 449) (by decide +kernel), by decide +kernel⟩
theorem wi_X9_counted : Cond.instanceMethod yX9_counted ∈ ax_T := ax_inT ⟨List.mem_of_getElem? (i := 448) (by decide +kernel), by decide +kernel⟩
theorem we_X9_counted : Cond.selects yX9_counted.cls yX9_counted yX9_counted ∈ ax_T := ax_inT ⟨List.mem_of_getElem? (i := 6) (by decide +kernel), by decide +kernel⟩
theorem wc_X9_count : Cond.code yX9_count cX9_count 2 (some .int) ∈ ax_T := ax_inT ⟨List.mem_of_getElem? (i := 990) (by decide +kernel), by decide +kernel⟩
theorem wi_X9_count : Cond.instanceMethod yX9_count ∈ ax_T := ax_inT ⟨List.mem_of_getElem? (i := 988) (by decide +kernel), by decide +kernel⟩
theorem we_X9_count : Cond.selects yX9_count.cls yX9_count yX9_count ∈ ax_T := ax_inT ⟨List.mem_of_getElem? (i := 989) (by decide +kernel), by decide +kernel⟩
theorem wc_X9_packageProperty : Cond.code yX9_packageProperty cX9_packageProperty 4 (some .int) ∈ ax_T := ax_inT ⟨List.mem_of_getElem? (i := 496) (by decide +kernel), by decide +kernel⟩
theorem wi_X9_packageProperty : Cond.instanceMethod yX9_packageProperty ∈ ax_T := ax_inT ⟨List.mem_of_getElem? (i := 495) (by decide +kernel), by decide +kernel⟩
theorem we_X9_packageProperty : Cond.selects yX9_packageProperty.cls yX9_packageProperty yX9_packageProperty ∈ ax_T := ax_inT ⟨List.mem_of_getElem? (i := 10) (by decide +kernel), by decide +kernel⟩
theorem wc_X9_packageAt : Cond.code yX9_packageAt cX9_packageAt 3 (some .int) ∈ ax_T := ax_inT ⟨List.mem_of_getElem? (i := 997) (by decide +kernel), by decide +kernel⟩
theorem wi_X9_packageAt : Cond.instanceMethod yX9_packageAt ∈ ax_T := ax_inT ⟨List.mem_of_getElem? (i := 995) (by decide +kernel), by decide +kernel⟩
theorem we_X9_packageAt : Cond.selects yX9_packageAt.cls yX9_packageAt yX9_packageAt ∈ ax_T := ax_inT ⟨List.mem_of_getElem? (i := 996) (by decide +kernel), by decide +kernel⟩
theorem wc_X9_indexProperty : Cond.code yX9_indexProperty cX9_indexProperty 3 (some .int) ∈ ax_T := ax_inT ⟨List.mem_of_getElem? (i := 516) (by decide +kernel), by decide +kernel⟩
theorem wi_X9_indexProperty : Cond.instanceMethod yX9_indexProperty ∈ ax_T := ax_inT ⟨List.mem_of_getElem? (i := 515) (by decide +kernel), by decide +kernel⟩
theorem we_X9_indexProperty : Cond.selects yX9_indexProperty.cls yX9_indexProperty yX9_indexProperty ∈ ax_T := ax_inT ⟨List.mem_of_getElem? (i := 12) (by decide +kernel), by decide +kernel⟩
theorem wc_X9_index : Cond.code yX9_index cX9_index 3 (some .int) ∈ ax_T := ax_inT ⟨List.mem_of_getElem? (i := 1004) (by decide +kernel), by decide +kernel⟩
theorem wi_X9_index : Cond.instanceMethod yX9_index ∈ ax_T := ax_inT ⟨List.mem_of_getElem? (i := 1002) (by decide +kernel), by decide +kernel⟩
theorem we_X9_index : Cond.selects yX9_index.cls yX9_index yX9_index ∈ ax_T := ax_inT ⟨List.mem_of_getElem? (i := 1003) (by decide +kernel), by decide +kernel⟩
theorem wc_X9_meanAge : Cond.code yX9_meanAge cX9_meanAge 6 (some .double) ∈ ax_T := ax_inT ⟨List.mem_of_getElem? (i := 428) (by decide +kernel), by decide +kernel⟩
theorem wi_X9_meanAge : Cond.instanceMethod yX9_meanAge ∈ ax_T := ax_inT ⟨List.mem_of_getElem? (i := 426) (by decide +kernel), by decide +kernel⟩
theorem we_X9_meanAge : Cond.selects yX9_meanAge.cls yX9_meanAge yX9_meanAge ∈ ax_T := ax_inT ⟨List.mem_of_getElem? (i := 427) (by decide +kernel), by decide +kernel⟩
theorem wc_X9_mix : Cond.code yX9_mix cX9_mix 4 (some .long) ∈ ax_T := ax_inT ⟨List.mem_of_getElem? (i := 487) (by decide +kernel), by decide +kernel⟩
theorem ws_X9_mix : Cond.static yX9_mix ∈ ax_T := ax_inT ⟨List.mem_of_getElem? (i := 486) (by decide +kernel), by decide +kernel⟩
theorem wc_X9_mixPackages : Cond.code yX9_mixPackages cX9_mixPackages 7 (some .long) ∈ ax_T := ax_inT ⟨List.mem_of_getElem? (i := 492) (by decide +kernel), by decide +kernel⟩
theorem wi_X9_mixPackages : Cond.instanceMethod yX9_mixPackages ∈ ax_T := ax_inT ⟨List.mem_of_getElem? (i := 491) (by decide +kernel), by decide +kernel⟩
theorem we_X9_mixPackages : Cond.selects yX9_mixPackages.cls yX9_mixPackages yX9_mixPackages ∈ ax_T := ax_inT ⟨List.mem_of_getElem? (i := 9) (by decide +kernel), by decide +kernel⟩
theorem wc_X9_mixIndexes : Cond.code yX9_mixIndexes cX9_mixIndexes 8 (some .long) ∈ ax_T := ax_inT ⟨List.mem_of_getElem? (i := 508) (by decide +kernel), by decide +kernel⟩
theorem wi_X9_mixIndexes : Cond.instanceMethod yX9_mixIndexes ∈ ax_T := ax_inT ⟨List.mem_of_getElem? (i := 507) (by decide +kernel), by decide +kernel⟩
theorem we_X9_mixIndexes : Cond.selects yX9_mixIndexes.cls yX9_mixIndexes yX9_mixIndexes ∈ ax_T := ax_inT ⟨List.mem_of_getElem? (i := 11) (by decide +kernel), by decide +kernel⟩
theorem wc_X9_mixMirrors : Cond.code yX9_mixMirrors cX9_mixMirrors 7 (some .long) ∈ ax_T := ax_inT ⟨List.mem_of_getElem? (i := 529) (by decide +kernel), by decide +kernel⟩
theorem wi_X9_mixMirrors : Cond.instanceMethod yX9_mixMirrors ∈ ax_T := ax_inT ⟨List.mem_of_getElem? (i := 528) (by decide +kernel), by decide +kernel⟩
theorem we_X9_mixMirrors : Cond.selects yX9_mixMirrors.cls yX9_mixMirrors yX9_mixMirrors ∈ ax_T := ax_inT ⟨List.mem_of_getElem? (i := 13) (by decide +kernel), by decide +kernel⟩
theorem wc_X9_mixClients : Cond.code yX9_mixClients cX9_mixClients 9 (some .long) ∈ ax_T := ax_inT ⟨List.mem_of_getElem? (i := 544) (by decide +kernel), by decide +kernel⟩
theorem wi_X9_mixClients : Cond.instanceMethod yX9_mixClients ∈ ax_T := ax_inT ⟨List.mem_of_getElem? (i := 543) (by decide +kernel), by decide +kernel⟩
theorem we_X9_mixClients : Cond.selects yX9_mixClients.cls yX9_mixClients yX9_mixClients ∈ ax_T := ax_inT ⟨List.mem_of_getElem? (i := 14) (by decide +kernel), by decide +kernel⟩
theorem wc_X9_digest : Cond.code yX9_digest cX9_digest 4 (some .long) ∈ ax_T := ax_inT ⟨List.mem_of_getElem? (i := 444) (by decide +kernel), by decide +kernel⟩
theorem wi_X9_digest : Cond.instanceMethod yX9_digest ∈ ax_T := ax_inT ⟨List.mem_of_getElem? (i := 442) (by decide +kernel), by decide +kernel⟩
theorem we_X9_digest : Cond.selects yX9_digest.cls yX9_digest yX9_digest ∈ ax_T := ax_inT ⟨List.mem_of_getElem? (i := 443) (by decide +kernel), by decide +kernel⟩
theorem wc_X10_thrown : Cond.code yX10_thrown cX10_thrown 1 (some .int) ∈ ax_T := ax_inT ⟨List.mem_of_getElem? (i := 1140) (by decide +kernel), by decide +kernel⟩
theorem wi_X10_thrown : Cond.instanceMethod yX10_thrown ∈ ax_T := ax_inT ⟨List.mem_of_getElem? (i := 1138) (by decide +kernel), by decide +kernel⟩
theorem we_X10_thrown : Cond.selects yX10_thrown.cls yX10_thrown yX10_thrown ∈ ax_T := ax_inT ⟨List.mem_of_getElem? (i := 1139) (by decide +kernel), by decide +kernel⟩
theorem wc_X10_within : Cond.code yX10_within cX10_within 3 (some .boolean) ∈ ax_T := ax_inT ⟨List.mem_of_getElem? (i := 1147) (by decide +kernel), by decide +kernel⟩
theorem ws_X10_within : Cond.static yX10_within ∈ ax_T := ax_inT ⟨List.mem_of_getElem? (i := 1146) (by decide +kernel), by decide +kernel⟩
theorem wc_X10_has : Cond.code yX10_has cX10_has 2 (some .boolean) ∈ ax_T := ax_inT ⟨List.mem_of_getElem? (i := 1239) (by decide +kernel), by decide +kernel⟩
theorem ws_X10_has : Cond.static yX10_has ∈ ax_T := ax_inT ⟨List.mem_of_getElem? (i := 1238) (by decide +kernel), by decide +kernel⟩
theorem wc_X10_bits : Cond.code yX10_bits cX10_bits 3 (some .int) ∈ ax_T := ax_inT ⟨List.mem_of_getElem? (i := 1246) (by decide +kernel), by decide +kernel⟩
theorem ws_X10_bits : Cond.static yX10_bits ∈ ax_T := ax_inT ⟨List.mem_of_getElem? (i := 1245) (by decide +kernel), by decide +kernel⟩
theorem wc_X10_isPackage : Cond.code yX10_isPackage cX10_isPackage 2 (some .boolean) ∈ ax_T := ax_inT ⟨List.mem_of_getElem? (i := 1167) (by decide +kernel), by decide +kernel⟩
theorem wi_X10_isPackage : Cond.instanceMethod yX10_isPackage ∈ ax_T := ax_inT ⟨List.mem_of_getElem? (i := 1166) (by decide +kernel), by decide +kernel⟩
theorem we_X10_isPackage : Cond.selects yX10_isPackage.cls yX10_isPackage yX10_isPackage ∈ ax_T := ax_inT ⟨List.mem_of_getElem? (i := 32) (by decide +kernel), by decide +kernel⟩
theorem wc_X10_isMirror : Cond.code yX10_isMirror cX10_isMirror 2 (some .boolean) ∈ ax_T := ax_inT ⟨List.mem_of_getElem? (i := 1228) (by decide +kernel), by decide +kernel⟩
theorem wi_X10_isMirror : Cond.instanceMethod yX10_isMirror ∈ ax_T := ax_inT ⟨List.mem_of_getElem? (i := 1227) (by decide +kernel), by decide +kernel⟩
theorem we_X10_isMirror : Cond.selects yX10_isMirror.cls yX10_isMirror yX10_isMirror ∈ ax_T := ax_inT ⟨List.mem_of_getElem? (i := 40) (by decide +kernel), by decide +kernel⟩
theorem wc_X10_isClient : Cond.code yX10_isClient cX10_isClient 2 (some .boolean) ∈ ax_T := ax_inT ⟨List.mem_of_getElem? (i := 1306) (by decide +kernel), by decide +kernel⟩
theorem wi_X10_isClient : Cond.instanceMethod yX10_isClient ∈ ax_T := ax_inT ⟨List.mem_of_getElem? (i := 1305) (by decide +kernel), by decide +kernel⟩
theorem we_X10_isClient : Cond.selects yX10_isClient.cls yX10_isClient yX10_isClient ∈ ax_T := ax_inT ⟨List.mem_of_getElem? (i := 51) (by decide +kernel), by decide +kernel⟩
theorem wc_X10_isSetOf : Cond.code yX10_isSetOf cX10_isSetOf 3 (some .boolean) ∈ ax_T := ax_inT ⟨List.mem_of_getElem? (i := 1155) (by decide +kernel), by decide +kernel⟩
theorem wi_X10_isSetOf : Cond.instanceMethod yX10_isSetOf ∈ ax_T := ax_inT ⟨List.mem_of_getElem? (i := 1154) (by decide +kernel), by decide +kernel⟩
theorem we_X10_isSetOf : Cond.selects yX10_isSetOf.cls yX10_isSetOf yX10_isSetOf ∈ ax_T := ax_inT ⟨List.mem_of_getElem? (i := 30) (by decide +kernel), by decide +kernel⟩
theorem wc_X10_begin : Cond.code yX10_begin cX10_begin 3 (some .int) ∈ ax_T := ax_inT ⟨List.mem_of_getElem? (i := 1144) (by decide +kernel), by decide +kernel⟩
theorem wi_X10_begin : Cond.instanceMethod yX10_begin ∈ ax_T := ax_inT ⟨List.mem_of_getElem? (i := 1142) (by decide +kernel), by decide +kernel⟩
theorem we_X10_begin : Cond.selects yX10_begin.cls yX10_begin yX10_begin ∈ ax_T := ax_inT ⟨List.mem_of_getElem? (i := 1143) (by decide +kernel), by decide +kernel⟩
theorem wc_X10_putPackage : Cond.code yX10_putPackage cX10_putPackage 5 none ∈ ax_T := ax_inT ⟨List.mem_of_getElem? (i := 1159) (by decide +kernel), by decide +kernel⟩
theorem wi_X10_putPackage : Cond.instanceMethod yX10_putPackage ∈ ax_T := ax_inT ⟨List.mem_of_getElem? (i := 1158) (by decide +kernel), by decide +kernel⟩
theorem we_X10_putPackage : Cond.selects yX10_putPackage.cls yX10_putPackage yX10_putPackage ∈ ax_T := ax_inT ⟨List.mem_of_getElem? (i := 31) (by decide +kernel), by decide +kernel⟩
theorem wc_X10_addPackage : Cond.code yX10_addPackage cX10_addPackage 4 (some .int) ∈ ax_T := ax_inT ⟨List.mem_of_getElem? (i := 1151) (by decide +kernel), by decide +kernel⟩
theorem wi_X10_addPackage : Cond.instanceMethod yX10_addPackage ∈ ax_T := ax_inT ⟨List.mem_of_getElem? (i := 1149) (by decide +kernel), by decide +kernel⟩
theorem we_X10_addPackage : Cond.selects yX10_addPackage.cls yX10_addPackage yX10_addPackage ∈ ax_T := ax_inT ⟨List.mem_of_getElem? (i := 1150) (by decide +kernel), by decide +kernel⟩
theorem wc_X10_publish : Cond.code yX10_publish cX10_publish 2 (some .int) ∈ ax_T := ax_inT ⟨List.mem_of_getElem? (i := 1163) (by decide +kernel), by decide +kernel⟩
theorem wi_X10_publish : Cond.instanceMethod yX10_publish ∈ ax_T := ax_inT ⟨List.mem_of_getElem? (i := 1161) (by decide +kernel), by decide +kernel⟩
theorem we_X10_publish : Cond.selects yX10_publish.cls yX10_publish yX10_publish ∈ ax_T := ax_inT ⟨List.mem_of_getElem? (i := 1162) (by decide +kernel), by decide +kernel⟩
theorem wc_X10_release : Cond.code yX10_release cX10_release 3 (some .int) ∈ ax_T := ax_inT ⟨List.mem_of_getElem? (i := 1171) (by decide +kernel), by decide +kernel⟩
theorem wi_X10_release : Cond.instanceMethod yX10_release ∈ ax_T := ax_inT ⟨List.mem_of_getElem? (i := 1169) (by decide +kernel), by decide +kernel⟩
theorem we_X10_release : Cond.selects yX10_release.cls yX10_release yX10_release ∈ ax_T := ax_inT ⟨List.mem_of_getElem? (i := 1170) (by decide +kernel), by decide +kernel⟩
theorem wc_X10_setValidity : Cond.code yX10_setValidity cX10_setValidity 3 (some .int) ∈ ax_T := ax_inT ⟨List.mem_of_getElem? (i := 1176) (by decide +kernel), by decide +kernel⟩
theorem wi_X10_setValidity : Cond.instanceMethod yX10_setValidity ∈ ax_T := ax_inT ⟨List.mem_of_getElem? (i := 1174) (by decide +kernel), by decide +kernel⟩
theorem we_X10_setValidity : Cond.selects yX10_setValidity.cls yX10_setValidity yX10_setValidity ∈ ax_T := ax_inT ⟨List.mem_of_getElem? (i := 1175) (by decide +kernel), by decide +kernel⟩
theorem wc_X10_append : Cond.code yX10_append cX10_append 2 (some .int) ∈ ax_T := ax_inT ⟨List.mem_of_getElem? (i := 1180) (by decide +kernel), by decide +kernel⟩
theorem wi_X10_append : Cond.instanceMethod yX10_append ∈ ax_T := ax_inT ⟨List.mem_of_getElem? (i := 1178) (by decide +kernel), by decide +kernel⟩
theorem we_X10_append : Cond.selects yX10_append.cls yX10_append yX10_append ∈ ax_T := ax_inT ⟨List.mem_of_getElem? (i := 1179) (by decide +kernel), by decide +kernel⟩
theorem wc_X10_clearInput : Cond.code yX10_clearInput cX10_clearInput 2 (some .int) ∈ ax_T := ax_inT ⟨List.mem_of_getElem? (i := 1184) (by decide +kernel), by decide +kernel⟩
theorem wi_X10_clearInput : Cond.instanceMethod yX10_clearInput ∈ ax_T := ax_inT ⟨List.mem_of_getElem? (i := 1182) (by decide +kernel), by decide +kernel⟩
theorem we_X10_clearInput : Cond.selects yX10_clearInput.cls yX10_clearInput yX10_clearInput ∈ ax_T := ax_inT ⟨List.mem_of_getElem? (i := 1183) (by decide +kernel), by decide +kernel⟩
theorem wc_X10_takesSection : Cond.code yX10_takesSection cX10_takesSection 3 (some .boolean) ∈ ax_T := ax_inT ⟨List.mem_of_getElem? (i := 1208) (by decide +kernel), by decide +kernel⟩
theorem wi_X10_takesSection : Cond.instanceMethod yX10_takesSection ∈ ax_T := ax_inT ⟨List.mem_of_getElem? (i := 1207) (by decide +kernel), by decide +kernel⟩
theorem we_X10_takesSection : Cond.selects yX10_takesSection.cls yX10_takesSection yX10_takesSection ∈ ax_T := ax_inT ⟨List.mem_of_getElem? (i := 37) (by decide +kernel), by decide +kernel⟩
theorem wc_X10_takesLetter : Cond.code yX10_takesLetter cX10_takesLetter 4 (some .boolean) ∈ ax_T := ax_inT ⟨List.mem_of_getElem? (i := 1216) (by decide +kernel), by decide +kernel⟩
theorem wi_X10_takesLetter : Cond.instanceMethod yX10_takesLetter ∈ ax_T := ax_inT ⟨List.mem_of_getElem? (i := 1215) (by decide +kernel), by decide +kernel⟩
theorem we_X10_takesLetter : Cond.selects yX10_takesLetter.cls yX10_takesLetter yX10_takesLetter ∈ ax_T := ax_inT ⟨List.mem_of_getElem? (i := 39) (by decide +kernel), by decide +kernel⟩
theorem wc_X10_takesSize : Cond.code yX10_takesSize cX10_takesSize 3 (some .boolean) ∈ ax_T := ax_inT ⟨List.mem_of_getElem? (i := 1212) (by decide +kernel), by decide +kernel⟩
theorem wi_X10_takesSize : Cond.instanceMethod yX10_takesSize ∈ ax_T := ax_inT ⟨List.mem_of_getElem? (i := 1211) (by decide +kernel), by decide +kernel⟩
theorem we_X10_takesSize : Cond.selects yX10_takesSize.cls yX10_takesSize yX10_takesSize ∈ ax_T := ax_inT ⟨List.mem_of_getElem? (i := 38) (by decide +kernel), by decide +kernel⟩
theorem wc_X10_mayEnd : Cond.code yX10_mayEnd cX10_mayEnd 1 (some .boolean) ∈ ax_T := ax_inT ⟨List.mem_of_getElem? (i := 1200) (by decide +kernel), by decide +kernel⟩
theorem wi_X10_mayEnd : Cond.instanceMethod yX10_mayEnd ∈ ax_T := ax_inT ⟨List.mem_of_getElem? (i := 1199) (by decide +kernel), by decide +kernel⟩
theorem we_X10_mayEnd : Cond.selects yX10_mayEnd.cls yX10_mayEnd yX10_mayEnd ∈ ax_T := ax_inT ⟨List.mem_of_getElem? (i := 35) (by decide +kernel), by decide +kernel⟩
theorem wc_X10_endItem : Cond.code yX10_endItem cX10_endItem 1 none ∈ ax_T := ax_inT ⟨List.mem_of_getElem? (i := 1204) (by decide +kernel), by decide +kernel⟩
theorem wi_X10_endItem : Cond.instanceMethod yX10_endItem ∈ ax_T := ax_inT ⟨List.mem_of_getElem? (i := 1203) (by decide +kernel), by decide +kernel⟩
theorem we_X10_endItem : Cond.selects yX10_endItem.cls yX10_endItem yX10_endItem ∈ ax_T := ax_inT ⟨List.mem_of_getElem? (i := 36) (by decide +kernel), by decide +kernel⟩
theorem wc_X10_takes : Cond.code yX10_takes cX10_takes 2 (some .boolean) ∈ ax_T := ax_inT ⟨List.mem_of_getElem? (i := 1196) (by decide +kernel), by decide +kernel⟩
theorem wi_X10_takes : Cond.instanceMethod yX10_takes ∈ ax_T := ax_inT ⟨List.mem_of_getElem? (i := 1195) (by decide +kernel), by decide +kernel⟩
theorem we_X10_takes : Cond.selects yX10_takes.cls yX10_takes yX10_takes ∈ ax_T := ax_inT ⟨List.mem_of_getElem? (i := 34) (by decide +kernel), by decide +kernel⟩
theorem wc_X10_rightLength : Cond.code yX10_rightLength cX10_rightLength 2 (some .int) ∈ ax_T := ax_inT ⟨List.mem_of_getElem? (i := 1192) (by decide +kernel), by decide +kernel⟩
theorem wi_X10_rightLength : Cond.instanceMethod yX10_rightLength ∈ ax_T := ax_inT ⟨List.mem_of_getElem? (i := 1191) (by decide +kernel), by decide +kernel⟩
theorem we_X10_rightLength : Cond.selects yX10_rightLength.cls yX10_rightLength yX10_rightLength ∈ ax_T := ax_inT ⟨List.mem_of_getElem? (i := 33) (by decide +kernel), by decide +kernel⟩
theorem wc_X10_firstError : Cond.code yX10_firstError cX10_firstError 1 (some .int) ∈ ax_T := ax_inT ⟨List.mem_of_getElem? (i := 1188) (by decide +kernel), by decide +kernel⟩
theorem wi_X10_firstError : Cond.instanceMethod yX10_firstError ∈ ax_T := ax_inT ⟨List.mem_of_getElem? (i := 1186) (by decide +kernel), by decide +kernel⟩
theorem we_X10_firstError : Cond.selects yX10_firstError.cls yX10_firstError yX10_firstError ∈ ax_T := ax_inT ⟨List.mem_of_getElem? (i := 1187) (by decide +kernel), by decide +kernel⟩
theorem wc_X10_load : Cond.code yX10_load cX10_load 3 (some .int) ∈ ax_T := ax_inT ⟨List.mem_of_getElem? (i := 1220) (by decide +kernel), by decide +kernel⟩
theorem wi_X10_load : Cond.instanceMethod yX10_load ∈ ax_T := ax_inT ⟨List.mem_of_getElem? (i := 1218) (by decide +kernel), by decide +kernel⟩
theorem we_X10_load : Cond.selects yX10_load.cls yX10_load yX10_load ∈ ax_T := ax_inT ⟨List.mem_of_getElem? (i := 1219) (by decide +kernel), by decide +kernel⟩
theorem wc_X10_addMirror : Cond.code yX10_addMirror cX10_addMirror 10 (some .int) ∈ ax_T := ax_inT ⟨List.mem_of_getElem? (i := 1224) (by decide +kernel), by decide +kernel⟩
theorem wi_X10_addMirror : Cond.instanceMethod yX10_addMirror ∈ ax_T := ax_inT ⟨List.mem_of_getElem? (i := 1222) (by decide +kernel), by decide +kernel⟩
theorem we_X10_addMirror : Cond.selects yX10_addMirror.cls yX10_addMirror yX10_addMirror ∈ ax_T := ax_inT ⟨List.mem_of_getElem? (i := 1223) (by decide +kernel), by decide +kernel⟩
theorem wc_X10_tamper : Cond.code yX10_tamper cX10_tamper 2 (some .int) ∈ ax_T := ax_inT ⟨List.mem_of_getElem? (i := 1232) (by decide +kernel), by decide +kernel⟩
theorem wi_X10_tamper : Cond.instanceMethod yX10_tamper ∈ ax_T := ax_inT ⟨List.mem_of_getElem? (i := 1230) (by decide +kernel), by decide +kernel⟩
theorem we_X10_tamper : Cond.selects yX10_tamper.cls yX10_tamper yX10_tamper ∈ ax_T := ax_inT ⟨List.mem_of_getElem? (i := 1231) (by decide +kernel), by decide +kernel⟩
theorem wc_X10_fileCount : Cond.code yX10_fileCount cX10_fileCount 4 (some .int) ∈ ax_T := ax_inT ⟨List.mem_of_getElem? (i := 1243) (by decide +kernel), by decide +kernel⟩
theorem wi_X10_fileCount : Cond.instanceMethod yX10_fileCount ∈ ax_T := ax_inT ⟨List.mem_of_getElem? (i := 1242) (by decide +kernel), by decide +kernel⟩
theorem we_X10_fileCount : Cond.selects yX10_fileCount.cls yX10_fileCount yX10_fileCount ∈ ax_T := ax_inT ⟨List.mem_of_getElem? (i := 41) (by decide +kernel), by decide +kernel⟩
theorem wc_X10_removeFile : Cond.code yX10_removeFile cX10_removeFile 5 (some .int) ∈ ax_T := ax_inT ⟨List.mem_of_getElem? (i := 1236) (by decide +kernel), by decide +kernel⟩
theorem wi_X10_removeFile : Cond.instanceMethod yX10_removeFile ∈ ax_T := ax_inT ⟨List.mem_of_getElem? (i := 1234) (by decide +kernel), by decide +kernel⟩
theorem we_X10_removeFile : Cond.selects yX10_removeFile.cls yX10_removeFile yX10_removeFile ∈ ax_T := ax_inT ⟨List.mem_of_getElem? (i := 1235) (by decide +kernel), by decide +kernel⟩
theorem wc_X10_toldBy : Cond.code yX10_toldBy cX10_toldBy 3 (some .int) ∈ ax_T := ax_inT ⟨List.mem_of_getElem? (i := 1266) (by decide +kernel), by decide +kernel⟩
theorem wi_X10_toldBy : Cond.instanceMethod yX10_toldBy ∈ ax_T := ax_inT ⟨List.mem_of_getElem? (i := 1265) (by decide +kernel), by decide +kernel⟩
theorem we_X10_toldBy : Cond.selects yX10_toldBy.cls yX10_toldBy yX10_toldBy ∈ ax_T := ax_inT ⟨List.mem_of_getElem? (i := 45) (by decide +kernel), by decide +kernel⟩
theorem wc_X10_wants : Cond.code yX10_wants cX10_wants 4 (some .boolean) ∈ ax_T := ax_inT ⟨List.mem_of_getElem? (i := 1270) (by decide +kernel), by decide +kernel⟩
theorem wi_X10_wants : Cond.instanceMethod yX10_wants ∈ ax_T := ax_inT ⟨List.mem_of_getElem? (i := 1269) (by decide +kernel), by decide +kernel⟩
theorem we_X10_wants : Cond.selects yX10_wants.cls yX10_wants yX10_wants ∈ ax_T := ax_inT ⟨List.mem_of_getElem? (i := 46) (by decide +kernel), by decide +kernel⟩
theorem wc_X10_lacking : Cond.code yX10_lacking cX10_lacking 5 (some .int) ∈ ax_T := ax_inT ⟨List.mem_of_getElem? (i := 1274) (by decide +kernel), by decide +kernel⟩
theorem wi_X10_lacking : Cond.instanceMethod yX10_lacking ∈ ax_T := ax_inT ⟨List.mem_of_getElem? (i := 1273) (by decide +kernel), by decide +kernel⟩
theorem we_X10_lacking : Cond.selects yX10_lacking.cls yX10_lacking yX10_lacking ∈ ax_T := ax_inT ⟨List.mem_of_getElem? (i := 47) (by decide +kernel), by decide +kernel⟩
theorem wc_X10_copyFiles : Cond.code yX10_copyFiles cX10_copyFiles 9 (some .int) ∈ ax_T := ax_inT ⟨List.mem_of_getElem? (i := 1262) (by decide +kernel), by decide +kernel⟩
theorem wi_X10_copyFiles : Cond.instanceMethod yX10_copyFiles ∈ ax_T := ax_inT ⟨List.mem_of_getElem? (i := 1261) (by decide +kernel), by decide +kernel⟩
theorem we_X10_copyFiles : Cond.selects yX10_copyFiles.cls yX10_copyFiles yX10_copyFiles ∈ ax_T := ax_inT ⟨List.mem_of_getElem? (i := 44) (by decide +kernel), by decide +kernel⟩
theorem wc_X10_pull : Cond.code yX10_pull cX10_pull 8 (some .int) ∈ ax_T := ax_inT ⟨List.mem_of_getElem? (i := 1258) (by decide +kernel), by decide +kernel⟩
theorem wi_X10_pull : Cond.instanceMethod yX10_pull ∈ ax_T := ax_inT ⟨List.mem_of_getElem? (i := 1257) (by decide +kernel), by decide +kernel⟩
theorem we_X10_pull : Cond.selects yX10_pull.cls yX10_pull yX10_pull ∈ ax_T := ax_inT ⟨List.mem_of_getElem? (i := 43) (by decide +kernel), by decide +kernel⟩
theorem wc_X10_minute : Cond.code yX10_minute cX10_minute 2 none ∈ ax_T := ax_inT ⟨List.mem_of_getElem? (i := 1254) (by decide +kernel), by decide +kernel⟩
theorem wi_X10_minute : Cond.instanceMethod yX10_minute ∈ ax_T := ax_inT ⟨List.mem_of_getElem? (i := 1253) (by decide +kernel), by decide +kernel⟩
theorem we_X10_minute : Cond.selects yX10_minute.cls yX10_minute yX10_minute ∈ ax_T := ax_inT ⟨List.mem_of_getElem? (i := 42) (by decide +kernel), by decide +kernel⟩
theorem wc_X10_pass : Cond.code yX10_pass cX10_pass 4 (some .int) ∈ ax_T := ax_inT ⟨List.mem_of_getElem? (i := 1250) (by decide +kernel), by decide +kernel⟩
theorem wi_X10_pass : Cond.instanceMethod yX10_pass ∈ ax_T := ax_inT ⟨List.mem_of_getElem? (i := 1248) (by decide +kernel), by decide +kernel⟩
theorem we_X10_pass : Cond.selects yX10_pass.cls yX10_pass yX10_pass ∈ ax_T := ax_inT ⟨List.mem_of_getElem? (i := 1249) (by decide +kernel), by decide +kernel⟩
theorem wc_X10_isComplete : Cond.code yX10_isComplete cX10_isComplete 2 (some .boolean) ∈ ax_T := ax_inT ⟨List.mem_of_getElem? (i := 1290) (by decide +kernel), by decide +kernel⟩
theorem wi_X10_isComplete : Cond.instanceMethod yX10_isComplete ∈ ax_T := ax_inT ⟨List.mem_of_getElem? (i := 1289) (by decide +kernel), by decide +kernel⟩
theorem we_X10_isComplete : Cond.selects yX10_isComplete.cls yX10_isComplete yX10_isComplete ∈ ax_T := ax_inT ⟨List.mem_of_getElem? (i := 50) (by decide +kernel), by decide +kernel⟩
theorem wc_X10_nextPull : Cond.code yX10_nextPull cX10_nextPull 3 (some .int) ∈ ax_T := ax_inT ⟨List.mem_of_getElem? (i := 1286) (by decide +kernel), by decide +kernel⟩
theorem wi_X10_nextPull : Cond.instanceMethod yX10_nextPull ∈ ax_T := ax_inT ⟨List.mem_of_getElem? (i := 1285) (by decide +kernel), by decide +kernel⟩
theorem we_X10_nextPull : Cond.selects yX10_nextPull.cls yX10_nextPull yX10_nextPull ∈ ax_T := ax_inT ⟨List.mem_of_getElem? (i := 49) (by decide +kernel), by decide +kernel⟩
theorem wc_X10_mirrorNow : Cond.code yX10_mirrorNow cX10_mirrorNow 3 (some .int) ∈ ax_T := ax_inT ⟨List.mem_of_getElem? (i := 1282) (by decide +kernel), by decide +kernel⟩
theorem wi_X10_mirrorNow : Cond.instanceMethod yX10_mirrorNow ∈ ax_T := ax_inT ⟨List.mem_of_getElem? (i := 1281) (by decide +kernel), by decide +kernel⟩
theorem we_X10_mirrorNow : Cond.selects yX10_mirrorNow.cls yX10_mirrorNow yX10_mirrorNow ∈ ax_T := ax_inT ⟨List.mem_of_getElem? (i := 48) (by decide +kernel), by decide +kernel⟩
theorem wc_X10_mirror : Cond.code yX10_mirror cX10_mirror 3 (some .int) ∈ ax_T := ax_inT ⟨List.mem_of_getElem? (i := 1278) (by decide +kernel), by decide +kernel⟩
theorem wi_X10_mirror : Cond.instanceMethod yX10_mirror ∈ ax_T := ax_inT ⟨List.mem_of_getElem? (i := 1276) (by decide +kernel), by decide +kernel⟩
theorem we_X10_mirror : Cond.selects yX10_mirror.cls yX10_mirror yX10_mirror ∈ ax_T := ax_inT ⟨List.mem_of_getElem? (i := 1277) (by decide +kernel), by decide +kernel⟩
theorem wc_X10_files : Cond.code yX10_files cX10_files 3 (some .int) ∈ ax_T := ax_inT ⟨List.mem_of_getElem? (i := 1294) (by decide +kernel), by decide +kernel⟩
theorem wi_X10_files : Cond.instanceMethod yX10_files ∈ ax_T := ax_inT ⟨List.mem_of_getElem? (i := 1292) (by decide +kernel), by decide +kernel⟩
theorem we_X10_files : Cond.selects yX10_files.cls yX10_files yX10_files ∈ ax_T := ax_inT ⟨List.mem_of_getElem? (i := 1293) (by decide +kernel), by decide +kernel⟩
theorem wc_X10_addClient : Cond.code yX10_addClient cX10_addClient 3 (some .int) ∈ ax_T := ax_inT ⟨List.mem_of_getElem? (i := 1298) (by decide +kernel), by decide +kernel⟩
theorem wi_X10_addClient : Cond.instanceMethod yX10_addClient ∈ ax_T := ax_inT ⟨List.mem_of_getElem? (i := 1296) (by decide +kernel), by decide +kernel⟩
theorem we_X10_addClient : Cond.selects yX10_addClient.cls yX10_addClient yX10_addClient ∈ ax_T := ax_inT ⟨List.mem_of_getElem? (i := 1297) (by decide +kernel), by decide +kernel⟩
theorem wc_X10_closure : Cond.code yX10_closure cX10_closure 4 (some .int) ∈ ax_T := ax_inT ⟨List.mem_of_getElem? (i := 1330) (by decide +kernel), by decide +kernel⟩
theorem wi_X10_closure : Cond.instanceMethod yX10_closure ∈ ax_T := ax_inT ⟨List.mem_of_getElem? (i := 1329) (by decide +kernel), by decide +kernel⟩
theorem we_X10_closure : Cond.selects yX10_closure.cls yX10_closure yX10_closure ∈ ax_T := ax_inT ⟨List.mem_of_getElem? (i := 57) (by decide +kernel), by decide +kernel⟩
theorem wc_X10_installedSet : Cond.code yX10_installedSet cX10_installedSet 4 (some .int) ∈ ax_T := ax_inT ⟨List.mem_of_getElem? (i := 1326) (by decide +kernel), by decide +kernel⟩
theorem wi_X10_installedSet : Cond.instanceMethod yX10_installedSet ∈ ax_T := ax_inT ⟨List.mem_of_getElem? (i := 1325) (by decide +kernel), by decide +kernel⟩
theorem we_X10_installedSet : Cond.selects yX10_installedSet.cls yX10_installedSet yX10_installedSet ∈ ax_T := ax_inT ⟨List.mem_of_getElem? (i := 56) (by decide +kernel), by decide +kernel⟩
theorem wc_X10_isFresh : Cond.code yX10_isFresh cX10_isFresh 2 (some .boolean) ∈ ax_T := ax_inT ⟨List.mem_of_getElem? (i := 1318) (by decide +kernel), by decide +kernel⟩
theorem wi_X10_isFresh : Cond.instanceMethod yX10_isFresh ∈ ax_T := ax_inT ⟨List.mem_of_getElem? (i := 1317) (by decide +kernel), by decide +kernel⟩
theorem we_X10_isFresh : Cond.selects yX10_isFresh.cls yX10_isFresh yX10_isFresh ∈ ax_T := ax_inT ⟨List.mem_of_getElem? (i := 54) (by decide +kernel), by decide +kernel⟩
theorem wc_X10_indexFor : Cond.code yX10_indexFor cX10_indexFor 5 (some .int) ∈ ax_T := ax_inT ⟨List.mem_of_getElem? (i := 1314) (by decide +kernel), by decide +kernel⟩
theorem wi_X10_indexFor : Cond.instanceMethod yX10_indexFor ∈ ax_T := ax_inT ⟨List.mem_of_getElem? (i := 1313) (by decide +kernel), by decide +kernel⟩
theorem we_X10_indexFor : Cond.selects yX10_indexFor.cls yX10_indexFor yX10_indexFor ∈ ax_T := ax_inT ⟨List.mem_of_getElem? (i := 53) (by decide +kernel), by decide +kernel⟩
theorem wc_X10_have : Cond.code yX10_have cX10_have 8 (some .boolean) ∈ ax_T := ax_inT ⟨List.mem_of_getElem? (i := 1334) (by decide +kernel), by decide +kernel⟩
theorem wi_X10_have : Cond.instanceMethod yX10_have ∈ ax_T := ax_inT ⟨List.mem_of_getElem? (i := 1333) (by decide +kernel), by decide +kernel⟩
theorem we_X10_have : Cond.selects yX10_have.cls yX10_have yX10_have ∈ ax_T := ax_inT ⟨List.mem_of_getElem? (i := 58) (by decide +kernel), by decide +kernel⟩
theorem wc_X10_wantedBy : Cond.code yX10_wantedBy cX10_wantedBy 3 (some .int) ∈ ax_T := ax_inT ⟨List.mem_of_getElem? (i := 1322) (by decide +kernel), by decide +kernel⟩
theorem wi_X10_wantedBy : Cond.instanceMethod yX10_wantedBy ∈ ax_T := ax_inT ⟨List.mem_of_getElem? (i := 1321) (by decide +kernel), by decide +kernel⟩
theorem we_X10_wantedBy : Cond.selects yX10_wantedBy.cls yX10_wantedBy yX10_wantedBy ∈ ax_T := ax_inT ⟨List.mem_of_getElem? (i := 55) (by decide +kernel), by decide +kernel⟩
theorem wc_X10_reason : Cond.code yX10_reason cX10_reason 7 (some .int) ∈ ax_T := ax_inT ⟨List.mem_of_getElem? (i := 1310) (by decide +kernel), by decide +kernel⟩
theorem wi_X10_reason : Cond.instanceMethod yX10_reason ∈ ax_T := ax_inT ⟨List.mem_of_getElem? (i := 1309) (by decide +kernel), by decide +kernel⟩
theorem we_X10_reason : Cond.selects yX10_reason.cls yX10_reason yX10_reason ∈ ax_T := ax_inT ⟨List.mem_of_getElem? (i := 52) (by decide +kernel), by decide +kernel⟩
theorem wc_X10_install : Cond.code yX10_install cX10_install 8 (some .int) ∈ ax_T := ax_inT ⟨List.mem_of_getElem? (i := 1302) (by decide +kernel), by decide +kernel⟩
theorem wi_X10_install : Cond.instanceMethod yX10_install ∈ ax_T := ax_inT ⟨List.mem_of_getElem? (i := 1300) (by decide +kernel), by decide +kernel⟩
theorem we_X10_install : Cond.selects yX10_install.cls yX10_install yX10_install ∈ ax_T := ax_inT ⟨List.mem_of_getElem? (i := 1301) (by decide +kernel), by decide +kernel⟩
theorem wc_X10_changing : Cond.code yX10_changing cX10_changing 6 (some .int) ∈ ax_T := ax_inT ⟨List.mem_of_getElem? (i := 1346) (by decide +kernel), by decide +kernel⟩
theorem wi_X10_changing : Cond.instanceMethod yX10_changing ∈ ax_T := ax_inT ⟨List.mem_of_getElem? (i := 1345) (by decide +kernel), by decide +kernel⟩
theorem we_X10_changing : Cond.selects yX10_changing.cls yX10_changing yX10_changing ∈ ax_T := ax_inT ⟨List.mem_of_getElem? (i := 60) (by decide +kernel), by decide +kernel⟩
theorem wc_X10_fewest : Cond.code yX10_fewest cX10_fewest 7 (some .int) ∈ ax_T := ax_inT ⟨List.mem_of_getElem? (i := 1350) (by decide +kernel), by decide +kernel⟩
theorem wi_X10_fewest : Cond.instanceMethod yX10_fewest ∈ ax_T := ax_inT ⟨List.mem_of_getElem? (i := 1349) (by decide +kernel), by decide +kernel⟩
theorem we_X10_fewest : Cond.selects yX10_fewest.cls yX10_fewest yX10_fewest ∈ ax_T := ax_inT ⟨List.mem_of_getElem? (i := 61) (by decide +kernel), by decide +kernel⟩
theorem wc_X10_would : Cond.code yX10_would cX10_would 7 (some .int) ∈ ax_T := ax_inT ⟨List.mem_of_getElem? (i := 1342) (by decide +kernel), by decide +kernel⟩
theorem wi_X10_would : Cond.instanceMethod yX10_would ∈ ax_T := ax_inT ⟨List.mem_of_getElem? (i := 1341) (by decide +kernel), by decide +kernel⟩
theorem we_X10_would : Cond.selects yX10_would.cls yX10_would yX10_would ∈ ax_T := ax_inT ⟨List.mem_of_getElem? (i := 59) (by decide +kernel), by decide +kernel⟩
theorem wc_X10_ifInstalled : Cond.code yX10_ifInstalled cX10_ifInstalled 5 (some .int) ∈ ax_T := ax_inT ⟨List.mem_of_getElem? (i := 1338) (by decide +kernel), by decide +kernel⟩
theorem wi_X10_ifInstalled : Cond.instanceMethod yX10_ifInstalled ∈ ax_T := ax_inT ⟨List.mem_of_getElem? (i := 1336) (by decide +kernel), by decide +kernel⟩
theorem we_X10_ifInstalled : Cond.selects yX10_ifInstalled.cls yX10_ifInstalled yX10_ifInstalled ∈ ax_T := ax_inT ⟨List.mem_of_getElem? (i := 1337) (by decide +kernel), by decide +kernel⟩
theorem wc_X10_keep : Cond.code yX10_keep cX10_keep 2 none ∈ ax_T := ax_inT ⟨List.mem_of_getElem? (i := 1362) (by decide +kernel), by decide +kernel⟩
theorem wi_X10_keep : Cond.instanceMethod yX10_keep ∈ ax_T := ax_inT ⟨List.mem_of_getElem? (i := 1361) (by decide +kernel), by decide +kernel⟩
theorem we_X10_keep : Cond.selects yX10_keep.cls yX10_keep yX10_keep ∈ ax_T := ax_inT ⟨List.mem_of_getElem? (i := 63) (by decide +kernel), by decide +kernel⟩
theorem wc_X10_takeBack : Cond.code yX10_takeBack cX10_takeBack 2 none ∈ ax_T := ax_inT ⟨List.mem_of_getElem? (i := 1366) (by decide +kernel), by decide +kernel⟩
theorem wi_X10_takeBack : Cond.instanceMethod yX10_takeBack ∈ ax_T := ax_inT ⟨List.mem_of_getElem? (i := 1365) (by decide +kernel), by decide +kernel⟩
theorem we_X10_takeBack : Cond.selects yX10_takeBack.cls yX10_takeBack yX10_takeBack ∈ ax_T := ax_inT ⟨List.mem_of_getElem? (i := 64) (by decide +kernel), by decide +kernel⟩
theorem wc_X10_waits : Cond.code yX10_waits cX10_waits 6 (some .int) ∈ ax_T := ax_inT ⟨List.mem_of_getElem? (i := 1358) (by decide +kernel), by decide +kernel⟩
theorem wi_X10_waits : Cond.instanceMethod yX10_waits ∈ ax_T := ax_inT ⟨List.mem_of_getElem? (i := 1357) (by decide +kernel), by decide +kernel⟩
theorem we_X10_waits : Cond.selects yX10_waits.cls yX10_waits yX10_waits ∈ ax_T := ax_inT ⟨List.mem_of_getElem? (i := 62) (by decide +kernel), by decide +kernel⟩
theorem wc_X10_until : Cond.code yX10_until cX10_until 3 (some .int) ∈ ax_T := ax_inT ⟨List.mem_of_getElem? (i := 1354) (by decide +kernel), by decide +kernel⟩
theorem wi_X10_until : Cond.instanceMethod yX10_until ∈ ax_T := ax_inT ⟨List.mem_of_getElem? (i := 1352) (by decide +kernel), by decide +kernel⟩
theorem we_X10_until : Cond.selects yX10_until.cls yX10_until yX10_until ∈ ax_T := ax_inT ⟨List.mem_of_getElem? (i := 1353) (by decide +kernel), by decide +kernel⟩
theorem wc_X10_clientNow : Cond.code yX10_clientNow cX10_clientNow 3 (some .int) ∈ ax_T := ax_inT ⟨List.mem_of_getElem? (i := 1374) (by decide +kernel), by decide +kernel⟩
theorem wi_X10_clientNow : Cond.instanceMethod yX10_clientNow ∈ ax_T := ax_inT ⟨List.mem_of_getElem? (i := 1373) (by decide +kernel), by decide +kernel⟩
theorem we_X10_clientNow : Cond.selects yX10_clientNow.cls yX10_clientNow yX10_clientNow ∈ ax_T := ax_inT ⟨List.mem_of_getElem? (i := 65) (by decide +kernel), by decide +kernel⟩
theorem wc_X10_client : Cond.code yX10_client cX10_client 3 (some .int) ∈ ax_T := ax_inT ⟨List.mem_of_getElem? (i := 1370) (by decide +kernel), by decide +kernel⟩
theorem wi_X10_client : Cond.instanceMethod yX10_client ∈ ax_T := ax_inT ⟨List.mem_of_getElem? (i := 1368) (by decide +kernel), by decide +kernel⟩
theorem we_X10_client : Cond.selects yX10_client.cls yX10_client yX10_client ∈ ax_T := ax_inT ⟨List.mem_of_getElem? (i := 1369) (by decide +kernel), by decide +kernel⟩
theorem wc_X10_counted : Cond.code yX10_counted cX10_counted 5 (some .int) ∈ ax_T := ax_inT ⟨List.mem_of_getElem? (i := 1382) (by decide +kernel), by decide +kernel⟩
theorem wi_X10_counted : Cond.instanceMethod yX10_counted ∈ ax_T := ax_inT ⟨List.mem_of_getElem? (i := 1381) (by decide +kernel), by decide +kernel⟩
theorem we_X10_counted : Cond.selects yX10_counted.cls yX10_counted yX10_counted ∈ ax_T := ax_inT ⟨List.mem_of_getElem? (i := 66) (by decide +kernel), by decide +kernel⟩
theorem wc_X10_count : Cond.code yX10_count cX10_count 2 (some .int) ∈ ax_T := ax_inT ⟨List.mem_of_getElem? (i := 1378) (by decide +kernel), by decide +kernel⟩
theorem wi_X10_count : Cond.instanceMethod yX10_count ∈ ax_T := ax_inT ⟨List.mem_of_getElem? (i := 1376) (by decide +kernel), by decide +kernel⟩
theorem we_X10_count : Cond.selects yX10_count.cls yX10_count yX10_count ∈ ax_T := ax_inT ⟨List.mem_of_getElem? (i := 1377) (by decide +kernel), by decide +kernel⟩
theorem wc_X10_mirrorsWith : Cond.code yX10_mirrorsWith cX10_mirrorsWith 4 (some .int) ∈ ax_T := ax_inT ⟨List.mem_of_getElem? (i := 1394) (by decide +kernel), by decide +kernel⟩
theorem wi_X10_mirrorsWith : Cond.instanceMethod yX10_mirrorsWith ∈ ax_T := ax_inT ⟨List.mem_of_getElem? (i := 1393) (by decide +kernel), by decide +kernel⟩
theorem we_X10_mirrorsWith : Cond.selects yX10_mirrorsWith.cls yX10_mirrorsWith yX10_mirrorsWith ∈ ax_T := ax_inT ⟨List.mem_of_getElem? (i := 68) (by decide +kernel), by decide +kernel⟩
theorem wc_X10_packageNow : Cond.code yX10_packageNow cX10_packageNow 3 (some .int) ∈ ax_T := ax_inT ⟨List.mem_of_getElem? (i := 1390) (by decide +kernel), by decide +kernel⟩
theorem wi_X10_packageNow : Cond.instanceMethod yX10_packageNow ∈ ax_T := ax_inT ⟨List.mem_of_getElem? (i := 1389) (by decide +kernel), by decide +kernel⟩
theorem we_X10_packageNow : Cond.selects yX10_packageNow.cls yX10_packageNow yX10_packageNow ∈ ax_T := ax_inT ⟨List.mem_of_getElem? (i := 67) (by decide +kernel), by decide +kernel⟩
theorem wc_X10_packageAt : Cond.code yX10_packageAt cX10_packageAt 3 (some .int) ∈ ax_T := ax_inT ⟨List.mem_of_getElem? (i := 1386) (by decide +kernel), by decide +kernel⟩
theorem wi_X10_packageAt : Cond.instanceMethod yX10_packageAt ∈ ax_T := ax_inT ⟨List.mem_of_getElem? (i := 1384) (by decide +kernel), by decide +kernel⟩
theorem we_X10_packageAt : Cond.selects yX10_packageAt.cls yX10_packageAt yX10_packageAt ∈ ax_T := ax_inT ⟨List.mem_of_getElem? (i := 1385) (by decide +kernel), by decide +kernel⟩
theorem wc_X10_packagesOf : Cond.code yX10_packagesOf cX10_packagesOf 4 (some .int) ∈ ax_T := ax_inT ⟨List.mem_of_getElem? (i := 1406) (by decide +kernel), by decide +kernel⟩
theorem wi_X10_packagesOf : Cond.instanceMethod yX10_packagesOf ∈ ax_T := ax_inT ⟨List.mem_of_getElem? (i := 1405) (by decide +kernel), by decide +kernel⟩
theorem we_X10_packagesOf : Cond.selects yX10_packagesOf.cls yX10_packagesOf yX10_packagesOf ∈ ax_T := ax_inT ⟨List.mem_of_getElem? (i := 70) (by decide +kernel), by decide +kernel⟩
theorem wc_X10_indexNow : Cond.code yX10_indexNow cX10_indexNow 3 (some .int) ∈ ax_T := ax_inT ⟨List.mem_of_getElem? (i := 1402) (by decide +kernel), by decide +kernel⟩
theorem wi_X10_indexNow : Cond.instanceMethod yX10_indexNow ∈ ax_T := ax_inT ⟨List.mem_of_getElem? (i := 1401) (by decide +kernel), by decide +kernel⟩
theorem we_X10_indexNow : Cond.selects yX10_indexNow.cls yX10_indexNow yX10_indexNow ∈ ax_T := ax_inT ⟨List.mem_of_getElem? (i := 69) (by decide +kernel), by decide +kernel⟩
theorem wc_X10_index : Cond.code yX10_index cX10_index 3 (some .int) ∈ ax_T := ax_inT ⟨List.mem_of_getElem? (i := 1398) (by decide +kernel), by decide +kernel⟩
theorem wi_X10_index : Cond.instanceMethod yX10_index ∈ ax_T := ax_inT ⟨List.mem_of_getElem? (i := 1396) (by decide +kernel), by decide +kernel⟩
theorem we_X10_index : Cond.selects yX10_index.cls yX10_index yX10_index ∈ ax_T := ax_inT ⟨List.mem_of_getElem? (i := 1397) (by decide +kernel), by decide +kernel⟩
theorem wc_X10_meanAge : Cond.code yX10_meanAge cX10_meanAge 5 (some .double) ∈ ax_T := ax_inT ⟨List.mem_of_getElem? (i := 1410) (by decide +kernel), by decide +kernel⟩
theorem wi_X10_meanAge : Cond.instanceMethod yX10_meanAge ∈ ax_T := ax_inT ⟨List.mem_of_getElem? (i := 1408) (by decide +kernel), by decide +kernel⟩
theorem we_X10_meanAge : Cond.selects yX10_meanAge.cls yX10_meanAge yX10_meanAge ∈ ax_T := ax_inT ⟨List.mem_of_getElem? (i := 1409) (by decide +kernel), by decide +kernel⟩
theorem wc_X10_mix : Cond.code yX10_mix cX10_mix 3 none ∈ ax_T := ax_inT ⟨List.mem_of_getElem? (i := 1419) (by decide +kernel), by decide +kernel⟩
theorem wi_X10_mix : Cond.instanceMethod yX10_mix ∈ ax_T := ax_inT ⟨List.mem_of_getElem? (i := 1418) (by decide +kernel), by decide +kernel⟩
theorem we_X10_mix : Cond.selects yX10_mix.cls yX10_mix yX10_mix ∈ ax_T := ax_inT ⟨List.mem_of_getElem? (i := 71) (by decide +kernel), by decide +kernel⟩
theorem wc_X10_mixIndexes : Cond.code yX10_mixIndexes cX10_mixIndexes 3 none ∈ ax_T := ax_inT ⟨List.mem_of_getElem? (i := 1424) (by decide +kernel), by decide +kernel⟩
theorem wi_X10_mixIndexes : Cond.instanceMethod yX10_mixIndexes ∈ ax_T := ax_inT ⟨List.mem_of_getElem? (i := 1423) (by decide +kernel), by decide +kernel⟩
theorem we_X10_mixIndexes : Cond.selects yX10_mixIndexes.cls yX10_mixIndexes yX10_mixIndexes ∈ ax_T := ax_inT ⟨List.mem_of_getElem? (i := 72) (by decide +kernel), by decide +kernel⟩
theorem wc_X10_mixMirrors : Cond.code yX10_mixMirrors cX10_mixMirrors 3 none ∈ ax_T := ax_inT ⟨List.mem_of_getElem? (i := 1428) (by decide +kernel), by decide +kernel⟩
theorem wi_X10_mixMirrors : Cond.instanceMethod yX10_mixMirrors ∈ ax_T := ax_inT ⟨List.mem_of_getElem? (i := 1427) (by decide +kernel), by decide +kernel⟩
theorem we_X10_mixMirrors : Cond.selects yX10_mixMirrors.cls yX10_mixMirrors yX10_mixMirrors ∈ ax_T := ax_inT ⟨List.mem_of_getElem? (i := 73) (by decide +kernel), by decide +kernel⟩
theorem wc_X10_mixClients : Cond.code yX10_mixClients cX10_mixClients 3 none ∈ ax_T := ax_inT ⟨List.mem_of_getElem? (i := 1432) (by decide +kernel), by decide +kernel⟩
theorem wi_X10_mixClients : Cond.instanceMethod yX10_mixClients ∈ ax_T := ax_inT ⟨List.mem_of_getElem? (i := 1431) (by decide +kernel), by decide +kernel⟩
theorem we_X10_mixClients : Cond.selects yX10_mixClients.cls yX10_mixClients yX10_mixClients ∈ ax_T := ax_inT ⟨List.mem_of_getElem? (i := 74) (by decide +kernel), by decide +kernel⟩
theorem wc_X10_digest : Cond.code yX10_digest cX10_digest 2 (some .long) ∈ ax_T := ax_inT ⟨List.mem_of_getElem? (i := 1414) (by decide +kernel), by decide +kernel⟩
theorem wi_X10_digest : Cond.instanceMethod yX10_digest ∈ ax_T := ax_inT ⟨List.mem_of_getElem? (i := 1412) (by decide +kernel), by decide +kernel⟩
theorem we_X10_digest : Cond.selects yX10_digest.cls yX10_digest yX10_digest ∈ ax_T := ax_inT ⟨List.mem_of_getElem? (i := 1413) (by decide +kernel), by decide +kernel⟩
theorem wc_L_begin : Cond.codeWith yL_begin cL_begin 4 (some .int) [(0, 9, 12, 13)] ∈ ax_T := ax_inT ⟨List.mem_of_getElem? (i := 659) (by decide +kernel), by decide +kernel⟩
theorem ws_L_begin : Cond.static yL_begin ∈ ax_T := ax_inT ⟨List.mem_of_getElem? (i := 658) (by decide +kernel), by decide +kernel⟩
theorem wc_L_addPackage : Cond.codeWith yL_addPackage cL_addPackage 6 (some .int) [(0, 12, 15, 19), (0, 12, 19, 13), (0, 12, 23, 21)] ∈ ax_T := ax_inT ⟨List.mem_of_getElem? (i := 743) (by decide +kernel), by decide +kernel⟩
theorem ws_L_addPackage : Cond.static yL_addPackage ∈ ax_T := ax_inT ⟨List.mem_of_getElem? (i := 742) (by decide +kernel), by decide +kernel⟩
theorem wc_L_publish : Cond.codeWith yL_publish cL_publish 4 (some .int) [(0, 9, 12, 19), (0, 9, 15, 21)] ∈ ax_T := ax_inT ⟨List.mem_of_getElem? (i := 796) (by decide +kernel), by decide +kernel⟩
theorem ws_L_publish : Cond.static yL_publish ∈ ax_T := ax_inT ⟨List.mem_of_getElem? (i := 795) (by decide +kernel), by decide +kernel⟩
theorem wc_L_release : Cond.codeWith yL_release cL_release 3 (some .int) [(0, 8, 11, 21)] ∈ ax_T := ax_inT ⟨List.mem_of_getElem? (i := 809) (by decide +kernel), by decide +kernel⟩
theorem ws_L_release : Cond.static yL_release ∈ ax_T := ax_inT ⟨List.mem_of_getElem? (i := 808) (by decide +kernel), by decide +kernel⟩
theorem wc_L_setValidity : Cond.codeWith yL_setValidity cL_setValidity 4 (some .int) [(0, 9, 12, 13)] ∈ ax_T := ax_inT ⟨List.mem_of_getElem? (i := 826) (by decide +kernel), by decide +kernel⟩
theorem ws_L_setValidity : Cond.static yL_setValidity ∈ ax_T := ax_inT ⟨List.mem_of_getElem? (i := 825) (by decide +kernel), by decide +kernel⟩
theorem wc_L_append : Cond.codeWith yL_append cL_append 4 (some .int) [(0, 9, 12, 13), (0, 9, 15, 21)] ∈ ax_T := ax_inT ⟨List.mem_of_getElem? (i := 834) (by decide +kernel), by decide +kernel⟩
theorem ws_L_append : Cond.static yL_append ∈ ax_T := ax_inT ⟨List.mem_of_getElem? (i := 833) (by decide +kernel), by decide +kernel⟩
theorem wc_L_load : Cond.codeWith yL_load cL_load 3 (some .int) [(0, 8, 11, 13)] ∈ ax_T := ax_inT ⟨List.mem_of_getElem? (i := 847) (by decide +kernel), by decide +kernel⟩
theorem ws_L_load : Cond.static yL_load ∈ ax_T := ax_inT ⟨List.mem_of_getElem? (i := 846) (by decide +kernel), by decide +kernel⟩
theorem wc_L_addMirror : Cond.codeWith yL_addMirror cL_addMirror 9 (some .int) [(0, 18, 21, 19), (0, 18, 25, 13), (0, 18, 29, 21)] ∈ ax_T := ax_inT ⟨List.mem_of_getElem? (i := 866) (by decide +kernel), by decide +kernel⟩
theorem ws_L_addMirror : Cond.static yL_addMirror ∈ ax_T := ax_inT ⟨List.mem_of_getElem? (i := 865) (by decide +kernel), by decide +kernel⟩
theorem wc_L_tamper : Cond.codeWith yL_tamper cL_tamper 4 (some .int) [(0, 9, 12, 19), (0, 9, 15, 21)] ∈ ax_T := ax_inT ⟨List.mem_of_getElem? (i := 883) (by decide +kernel), by decide +kernel⟩
theorem ws_L_tamper : Cond.static yL_tamper ∈ ax_T := ax_inT ⟨List.mem_of_getElem? (i := 882) (by decide +kernel), by decide +kernel⟩
theorem wc_L_removeFile : Cond.codeWith yL_removeFile cL_removeFile 6 (some .int) [(0, 12, 15, 19), (0, 12, 19, 21)] ∈ ax_T := ax_inT ⟨List.mem_of_getElem? (i := 896) (by decide +kernel), by decide +kernel⟩
theorem ws_L_removeFile : Cond.static yL_removeFile ∈ ax_T := ax_inT ⟨List.mem_of_getElem? (i := 895) (by decide +kernel), by decide +kernel⟩
theorem wc_L_pass : Cond.codeWith yL_pass cL_pass 4 (some .int) [(0, 9, 12, 13)] ∈ ax_T := ax_inT ⟨List.mem_of_getElem? (i := 910) (by decide +kernel), by decide +kernel⟩
theorem ws_L_pass : Cond.static yL_pass ∈ ax_T := ax_inT ⟨List.mem_of_getElem? (i := 909) (by decide +kernel), by decide +kernel⟩
theorem wc_L_mirror : Cond.codeWith yL_mirror cL_mirror 5 (some .int) [(0, 10, 13, 19), (0, 10, 17, 13)] ∈ ax_T := ax_inT ⟨List.mem_of_getElem? (i := 918) (by decide +kernel), by decide +kernel⟩
theorem ws_L_mirror : Cond.static yL_mirror ∈ ax_T := ax_inT ⟨List.mem_of_getElem? (i := 917) (by decide +kernel), by decide +kernel⟩
theorem wc_L_files : Cond.codeWith yL_files cL_files 5 (some .int) [(0, 10, 13, 19)] ∈ ax_T := ax_inT ⟨List.mem_of_getElem? (i := 929) (by decide +kernel), by decide +kernel⟩
theorem ws_L_files : Cond.static yL_files ∈ ax_T := ax_inT ⟨List.mem_of_getElem? (i := 928) (by decide +kernel), by decide +kernel⟩
theorem wc_L_addClient : Cond.codeWith yL_addClient cL_addClient 4 (some .int) [(0, 9, 12, 13), (0, 9, 15, 21)] ∈ ax_T := ax_inT ⟨List.mem_of_getElem? (i := 936) (by decide +kernel), by decide +kernel⟩
theorem ws_L_addClient : Cond.static yL_addClient ∈ ax_T := ax_inT ⟨List.mem_of_getElem? (i := 935) (by decide +kernel), by decide +kernel⟩
theorem wc_L_install : Cond.codeWith yL_install cL_install 5 (some .int) [(0, 10, 13, 19), (0, 10, 17, 13)] ∈ ax_T := ax_inT ⟨List.mem_of_getElem? (i := 949) (by decide +kernel), by decide +kernel⟩
theorem ws_L_install : Cond.static yL_install ∈ ax_T := ax_inT ⟨List.mem_of_getElem? (i := 948) (by decide +kernel), by decide +kernel⟩
theorem wc_L_ifInstalled : Cond.codeWith yL_ifInstalled cL_ifInstalled 6 (some .int) [(0, 12, 15, 19), (0, 12, 19, 13)] ∈ ax_T := ax_inT ⟨List.mem_of_getElem? (i := 965) (by decide +kernel), by decide +kernel⟩
theorem ws_L_ifInstalled : Cond.static yL_ifInstalled ∈ ax_T := ax_inT ⟨List.mem_of_getElem? (i := 964) (by decide +kernel), by decide +kernel⟩
theorem wc_L_until : Cond.codeWith yL_until cL_until 5 (some .int) [(0, 10, 13, 19), (0, 10, 17, 13)] ∈ ax_T := ax_inT ⟨List.mem_of_getElem? (i := 972) (by decide +kernel), by decide +kernel⟩
theorem ws_L_until : Cond.static yL_until ∈ ax_T := ax_inT ⟨List.mem_of_getElem? (i := 971) (by decide +kernel), by decide +kernel⟩
theorem wc_L_client : Cond.codeWith yL_client cL_client 5 (some .int) [(0, 10, 13, 19), (0, 10, 17, 13)] ∈ ax_T := ax_inT ⟨List.mem_of_getElem? (i := 979) (by decide +kernel), by decide +kernel⟩
theorem ws_L_client : Cond.static yL_client ∈ ax_T := ax_inT ⟨List.mem_of_getElem? (i := 978) (by decide +kernel), by decide +kernel⟩
theorem wc_L_count : Cond.codeWith yL_count cL_count 4 (some .int) [(0, 9, 12, 13)] ∈ ax_T := ax_inT ⟨List.mem_of_getElem? (i := 986) (by decide +kernel), by decide +kernel⟩
theorem ws_L_count : Cond.static yL_count ∈ ax_T := ax_inT ⟨List.mem_of_getElem? (i := 985) (by decide +kernel), by decide +kernel⟩
theorem wc_L_packageAt : Cond.codeWith yL_packageAt cL_packageAt 5 (some .int) [(0, 10, 13, 19), (0, 10, 17, 13)] ∈ ax_T := ax_inT ⟨List.mem_of_getElem? (i := 993) (by decide +kernel), by decide +kernel⟩
theorem ws_L_packageAt : Cond.static yL_packageAt ∈ ax_T := ax_inT ⟨List.mem_of_getElem? (i := 992) (by decide +kernel), by decide +kernel⟩
theorem wc_L_index : Cond.codeWith yL_index cL_index 5 (some .int) [(0, 10, 13, 19), (0, 10, 17, 13)] ∈ ax_T := ax_inT ⟨List.mem_of_getElem? (i := 1000) (by decide +kernel), by decide +kernel⟩
theorem ws_L_index : Cond.static yL_index ∈ ax_T := ax_inT ⟨List.mem_of_getElem? (i := 999) (by decide +kernel), by decide +kernel⟩
theorem wl_X9_60 : Cond.methodLink RX9 60 yX0_restart ∈ ax_T := ax_inT ⟨List.mem_of_getElem? (i := 733) (by decide +kernel), by decide +kernel⟩
theorem wl_X9_64 : Cond.methodLink RX9 64 yX5_restart ∈ ax_T := ax_inT ⟨List.mem_of_getElem? (i := 737) (by decide +kernel), by decide +kernel⟩
theorem wl_X9_76 : Cond.methodLink RX9 76 yX9_requirePackages ∈ ax_T := ax_inT ⟨List.mem_of_getElem? (i := 767) (by decide +kernel), by decide +kernel⟩
theorem wl_X9_87 : Cond.methodLink RX9 87 yX0_addPack ∈ ax_T := ax_inT ⟨List.mem_of_getElem? (i := 789) (by decide +kernel), by decide +kernel⟩
theorem wl_X9_91 : Cond.methodLink RX9 91 yX9_requirePackage ∈ ax_T := ax_inT ⟨List.mem_of_getElem? (i := 801) (by decide +kernel), by decide +kernel⟩
theorem wl_X9_115 : Cond.methodLink RX9 115 yX0_addIndex ∈ ax_T := ax_inT ⟨List.mem_of_getElem? (i := 816) (by decide +kernel), by decide +kernel⟩
theorem wl_X9_131 : Cond.methodLink RX9 131 yX3_put ∈ ax_T := ax_inT ⟨List.mem_of_getElem? (i := 841) (by decide +kernel), by decide +kernel⟩
theorem wl_X9_134 : Cond.methodLink RX9 134 yX3_firstWrong ∈ ax_T := ax_inT ⟨List.mem_of_getElem? (i := 386) (by decide +kernel), by decide +kernel⟩
theorem wl_X9_138 : Cond.methodLink RX9 138 yX3_isComplete ∈ ax_T := ax_inT ⟨List.mem_of_getElem? (i := 852) (by decide +kernel), by decide +kernel⟩
theorem wl_X9_144 : Cond.methodLink RX9 144 yX3_addPacksTo ∈ ax_T := ax_inT ⟨List.mem_of_getElem? (i := 859) (by decide +kernel), by decide +kernel⟩
theorem wl_X9_152 : Cond.methodLink RX9 152 yX9_hasBitFrom ∈ ax_T := ax_inT ⟨List.mem_of_getElem? (i := 771) (by decide +kernel), by decide +kernel⟩
theorem wl_X9_170 : Cond.methodLink RX9 170 yX4_restart ∈ ax_T := ax_inT ⟨List.mem_of_getElem? (i := 877) (by decide +kernel), by decide +kernel⟩
theorem wl_X9_175 : Cond.methodLink RX9 175 yX9_requireMirror ∈ ax_T := ax_inT ⟨List.mem_of_getElem? (i := 888) (by decide +kernel), by decide +kernel⟩
theorem wl_X9_187 : Cond.methodLink RX9 187 yX4_hasFile ∈ ax_T := ax_inT ⟨List.mem_of_getElem? (i := 901) (by decide +kernel), by decide +kernel⟩
theorem wl_X9_192 : Cond.methodLink RX9 192 yX4_dropFile ∈ ax_T := ax_inT ⟨List.mem_of_getElem? (i := 903) (by decide +kernel), by decide +kernel⟩
theorem wl_X9_196 : Cond.methodLink RX9 196 yX4_fileCount ∈ ax_T := ax_inT ⟨List.mem_of_getElem? (i := 907) (by decide +kernel), by decide +kernel⟩
theorem wl_X9_205 : Cond.methodLink RX9 205 yX5_passMinute ∈ ax_T := ax_inT ⟨List.mem_of_getElem? (i := 617) (by decide +kernel), by decide +kernel⟩
theorem wl_X9_208 : Cond.methodLink RX9 208 yX9_requireKind ∈ ax_T := ax_inT ⟨List.mem_of_getElem? (i := 923) (by decide +kernel), by decide +kernel⟩
theorem wl_X9_211 : Cond.methodLink RX9 211 yX5_propertyOf ∈ ax_T := ax_inT ⟨List.mem_of_getElem? (i := 530) (by decide +kernel), by decide +kernel⟩
theorem wl_X9_223 : Cond.methodLink RX9 223 yX1_restart ∈ ax_T := ax_inT ⟨List.mem_of_getElem? (i := 943) (by decide +kernel), by decide +kernel⟩
theorem wl_X9_224 : Cond.methodLink RX9 224 yX9_requireClient ∈ ax_T := ax_inT ⟨List.mem_of_getElem? (i := 954) (by decide +kernel), by decide +kernel⟩
theorem wl_X9_227 : Cond.methodLink RX9 227 yX7_draw ∈ ax_T := ax_inT ⟨List.mem_of_getElem? (i := 557) (by decide +kernel), by decide +kernel⟩
theorem wl_X9_234 : Cond.methodLink RX9 234 yX7_carryOut ∈ ax_T := ax_inT ⟨List.mem_of_getElem? (i := 959) (by decide +kernel), by decide +kernel⟩
theorem wl_X9_238 : Cond.methodLink RX9 238 yX9_planned ∈ ax_T := ax_inT ⟨List.mem_of_getElem? (i := 588) (by decide +kernel), by decide +kernel⟩
theorem wl_X9_242 : Cond.methodLink RX9 242 yX9_minutesToAcceptance ∈ ax_T := ax_inT ⟨List.mem_of_getElem? (i := 605) (by decide +kernel), by decide +kernel⟩
theorem wl_X9_245 : Cond.methodLink RX9 245 yX1_property ∈ ax_T := ax_inT ⟨List.mem_of_getElem? (i := 545) (by decide +kernel), by decide +kernel⟩
theorem wl_X9_248 : Cond.methodLink RX9 248 yX9_counted ∈ ax_T := ax_inT ⟨List.mem_of_getElem? (i := 446) (by decide +kernel), by decide +kernel⟩
theorem wl_X9_251 : Cond.methodLink RX9 251 yX9_packageProperty ∈ ax_T := ax_inT ⟨List.mem_of_getElem? (i := 493) (by decide +kernel), by decide +kernel⟩
theorem wl_X9_256 : Cond.methodLink RX9 256 yX9_indexProperty ∈ ax_T := ax_inT ⟨List.mem_of_getElem? (i := 513) (by decide +kernel), by decide +kernel⟩
theorem wl_X9_259 : Cond.methodLink RX9 259 yX4_hasGoodIndex ∈ ax_T := ax_inT ⟨List.mem_of_getElem? (i := 429) (by decide +kernel), by decide +kernel⟩
theorem wl_X9_263 : Cond.methodLink RX9 263 yX0_releaseTime ∈ ax_T := ax_inT ⟨List.mem_of_getElem? (i := 433) (by decide +kernel), by decide +kernel⟩
theorem wl_X9_268 : Cond.methodLink RX9 268 yX9_mix ∈ ax_T := ax_inT ⟨List.mem_of_getElem? (i := 485) (by decide +kernel), by decide +kernel⟩
theorem wl_X9_272 : Cond.methodLink RX9 272 yX9_mixPackages ∈ ax_T := ax_inT ⟨List.mem_of_getElem? (i := 489) (by decide +kernel), by decide +kernel⟩
theorem wl_X9_276 : Cond.methodLink RX9 276 yX9_mixIndexes ∈ ax_T := ax_inT ⟨List.mem_of_getElem? (i := 505) (by decide +kernel), by decide +kernel⟩
theorem wl_X9_279 : Cond.methodLink RX9 279 yX9_mixMirrors ∈ ax_T := ax_inT ⟨List.mem_of_getElem? (i := 526) (by decide +kernel), by decide +kernel⟩
theorem wl_X9_282 : Cond.methodLink RX9 282 yX9_mixClients ∈ ax_T := ax_inT ⟨List.mem_of_getElem? (i := 541) (by decide +kernel), by decide +kernel⟩
theorem wl_X9_298 : Cond.methodLink RX9 298 yX5_completeMirrors ∈ ax_T := ax_inT ⟨List.mem_of_getElem? (i := 450) (by decide +kernel), by decide +kernel⟩
theorem wl_X9_301 : Cond.methodLink RX9 301 yX5_fileCount ∈ ax_T := ax_inT ⟨List.mem_of_getElem? (i := 471) (by decide +kernel), by decide +kernel⟩
theorem wl_X9_314 : Cond.methodLink RX9 314 yX5_mirrorsWith ∈ ax_T := ax_inT ⟨List.mem_of_getElem? (i := 497) (by decide +kernel), by decide +kernel⟩
theorem wl_X9_317 : Cond.methodLink RX9 317 yX0_packsIn ∈ ax_T := ax_inT ⟨List.mem_of_getElem? (i := 509) (by decide +kernel), by decide +kernel⟩
theorem wl_X9_320 : Cond.methodLink RX9 320 yX0_signatureOf ∈ ax_T := ax_inT ⟨List.mem_of_getElem? (i := 517) (by decide +kernel), by decide +kernel⟩
theorem wl_X9_323 : Cond.methodLink RX9 323 yX0_isFresh ∈ ax_T := ax_inT ⟨List.mem_of_getElem? (i := 521) (by decide +kernel), by decide +kernel⟩
theorem wl_X9_326 : Cond.methodLink RX9 326 yX0_versionIn ∈ ax_T := ax_inT ⟨List.mem_of_getElem? (i := 525) (by decide +kernel), by decide +kernel⟩
theorem wl_X9_333 : Cond.methodLink RX9 333 yX7_changedSize ∈ ax_T := ax_inT ⟨List.mem_of_getElem? (i := 592) (by decide +kernel), by decide +kernel⟩
theorem wl_X9_337 : Cond.methodLink RX9 337 yX7_fewestMirrors ∈ ax_T := ax_inT ⟨List.mem_of_getElem? (i := 597) (by decide +kernel), by decide +kernel⟩
theorem wl_X9_340 : Cond.methodLink RX9 340 yX5_copyFrom ∈ ax_T := ax_inT ⟨List.mem_of_getElem? (i := 609) (by decide +kernel), by decide +kernel⟩
theorem wl_X0_47 : Cond.methodLink RX0 47 yX0_closureOf ∈ ax_T := ax_inT ⟨List.mem_of_getElem? (i := 793) (by decide +kernel), by decide +kernel⟩
theorem wl_X0_65 : Cond.methodLink RX0 65 yX0_sign ∈ ax_T := ax_inT ⟨List.mem_of_getElem? (i := 820) (by decide +kernel), by decide +kernel⟩
theorem wl_X0_73 : Cond.methodLink RX0 73 yX0_hasIndex ∈ ax_T := ax_inT ⟨List.mem_of_getElem? (i := 437) (by decide +kernel), by decide +kernel⟩
theorem wl_X1_22 : Cond.methodLink RX1 22 yX1_installedSet ∈ ax_T := ax_inT ⟨List.mem_of_getElem? (i := 549) (by decide +kernel), by decide +kernel⟩
theorem wl_X1_26 : Cond.methodLink RX1 26 yX1_versionOf ∈ ax_T := ax_inT ⟨List.mem_of_getElem? (i := 553) (by decide +kernel), by decide +kernel⟩
theorem wl_X3_34 : Cond.methodLink RX3 34 yX8_restart ∈ ax_T := ax_inT ⟨List.mem_of_getElem? (i := 390) (by decide +kernel), by decide +kernel⟩
theorem wl_X3_38 : Cond.methodLink RX3 38 yX8_reads ∈ ax_T := ax_inT ⟨List.mem_of_getElem? (i := 398) (by decide +kernel), by decide +kernel⟩
theorem wl_X3_42 : Cond.methodLink RX3 42 yX3_firstWrong ∈ ax_T := ax_inT ⟨List.mem_of_getElem? (i := 856) (by decide +kernel), by decide +kernel⟩
theorem wl_X3_46 : Cond.methodLink RX3 46 yX8_mayEnd ∈ ax_T := ax_inT ⟨List.mem_of_getElem? (i := 857) (by decide +kernel), by decide +kernel⟩
theorem wl_X3_59 : Cond.methodLink RX3 59 yX0_addPack ∈ ax_T := ax_inT ⟨List.mem_of_getElem? (i := 863) (by decide +kernel), by decide +kernel⟩
theorem wl_X4_41 : Cond.methodLink RX4 41 yJ9_floorMod_7cf53 ∈ ax_T := ax_inT ⟨List.mem_of_getElem? (i := 538) (by decide +kernel), by decide +kernel⟩
theorem wl_X4_47 : Cond.methodLink RX4 47 yJ6_bitCount_0f7a4 ∈ ax_T := ax_inT ⟨List.mem_of_getElem? (i := 479) (by decide +kernel), by decide +kernel⟩
theorem wl_X5_32 : Cond.methodLink RX5 32 yX4_copyFrom ∈ ax_T := ax_inT ⟨List.mem_of_getElem? (i := 613) (by decide +kernel), by decide +kernel⟩
theorem wl_X5_36 : Cond.methodLink RX5 36 yX4_pullsAt ∈ ax_T := ax_inT ⟨List.mem_of_getElem? (i := 621) (by decide +kernel), by decide +kernel⟩
theorem wl_X5_40 : Cond.methodLink RX5 40 yX5_pull ∈ ax_T := ax_inT ⟨List.mem_of_getElem? (i := 625) (by decide +kernel), by decide +kernel⟩
theorem wl_X5_43 : Cond.methodLink RX5 43 yX5_offeredTo ∈ ax_T := ax_inT ⟨List.mem_of_getElem? (i := 629) (by decide +kernel), by decide +kernel⟩
theorem wl_X5_54 : Cond.methodLink RX5 54 yX4_takeIndex ∈ ax_T := ax_inT ⟨List.mem_of_getElem? (i := 637) (by decide +kernel), by decide +kernel⟩
theorem wl_X5_58 : Cond.methodLink RX5 58 yX5_copyMissing ∈ ax_T := ax_inT ⟨List.mem_of_getElem? (i := 641) (by decide +kernel), by decide +kernel⟩
theorem wl_X5_62 : Cond.methodLink RX5 62 yX5_missingOf ∈ ax_T := ax_inT ⟨List.mem_of_getElem? (i := 459) (by decide +kernel), by decide +kernel⟩
theorem wl_X5_66 : Cond.methodLink RX5 66 yX5_dropOldFiles ∈ ax_T := ax_inT ⟨List.mem_of_getElem? (i := 649) (by decide +kernel), by decide +kernel⟩
theorem wl_X5_72 : Cond.methodLink RX5 72 yX5_upstreamOf ∈ ax_T := ax_inT ⟨List.mem_of_getElem? (i := 633) (by decide +kernel), by decide +kernel⟩
theorem wl_X5_81 : Cond.methodLink RX5 81 yX4_hasGoodIndex ∈ ax_T := ax_inT ⟨List.mem_of_getElem? (i := 458) (by decide +kernel), by decide +kernel⟩
theorem wl_X5_95 : Cond.methodLink RX5 95 yX0_versionIn ∈ ax_T := ax_inT ⟨List.mem_of_getElem? (i := 463) (by decide +kernel), by decide +kernel⟩
theorem wl_X5_99 : Cond.methodLink RX5 99 yX4_hasFile ∈ ax_T := ax_inT ⟨List.mem_of_getElem? (i := 501) (by decide +kernel), by decide +kernel⟩
theorem wl_X5_111 : Cond.methodLink RX5 111 yX4_lacks ∈ ax_T := ax_inT ⟨List.mem_of_getElem? (i := 467) (by decide +kernel), by decide +kernel⟩
theorem wl_X5_115 : Cond.methodLink RX5 115 yX4_addFile ∈ ax_T := ax_inT ⟨List.mem_of_getElem? (i := 645) (by decide +kernel), by decide +kernel⟩
theorem wl_X5_119 : Cond.methodLink RX5 119 yX4_dropOtherVersions ∈ ax_T := ax_inT ⟨List.mem_of_getElem? (i := 653) (by decide +kernel), by decide +kernel⟩
theorem wl_X5_122 : Cond.methodLink RX5 122 yX5_isComplete ∈ ax_T := ax_inT ⟨List.mem_of_getElem? (i := 454) (by decide +kernel), by decide +kernel⟩
theorem wl_X5_126 : Cond.methodLink RX5 126 yX4_fileCount ∈ ax_T := ax_inT ⟨List.mem_of_getElem? (i := 475) (by decide +kernel), by decide +kernel⟩
theorem wl_X5_142 : Cond.methodLink RX5 142 yX4_minutesToPull ∈ ax_T := ax_inT ⟨List.mem_of_getElem? (i := 534) (by decide +kernel), by decide +kernel⟩
theorem wl_X5_146 : Cond.methodLink RX5 146 yX0_isFresh ∈ ax_T := ax_inT ⟨List.mem_of_getElem? (i := 570) (by decide +kernel), by decide +kernel⟩
theorem wl_X5_149 : Cond.methodLink RX5 149 yJ9_max_7cf53 ∈ ax_T := ax_inT ⟨List.mem_of_getElem? (i := 571) (by decide +kernel), by decide +kernel⟩
theorem wl_X7_19 : Cond.methodLink RX7 19 yX1_installedSet ∈ ax_T := ax_inT ⟨List.mem_of_getElem? (i := 561) (by decide +kernel), by decide +kernel⟩
theorem wl_X7_25 : Cond.methodLink RX7 25 yX0_closureOf ∈ ax_T := ax_inT ⟨List.mem_of_getElem? (i := 562) (by decide +kernel), by decide +kernel⟩
theorem wl_X7_38 : Cond.methodLink RX7 38 yX5_latestFreshIndex ∈ ax_T := ax_inT ⟨List.mem_of_getElem? (i := 566) (by decide +kernel), by decide +kernel⟩
theorem wl_X7_49 : Cond.methodLink RX7 49 yX5_foundAt ∈ ax_T := ax_inT ⟨List.mem_of_getElem? (i := 574) (by decide +kernel), by decide +kernel⟩
theorem wl_X7_53 : Cond.methodLink RX7 53 yX7_reasonFor ∈ ax_T := ax_inT ⟨List.mem_of_getElem? (i := 578) (by decide +kernel), by decide +kernel⟩
theorem wl_X7_63 : Cond.methodLink RX7 63 yX0_packsIn ∈ ax_T := ax_inT ⟨List.mem_of_getElem? (i := 582) (by decide +kernel), by decide +kernel⟩
theorem wl_X7_70 : Cond.methodLink RX7 70 yX7_foundTogether ∈ ax_T := ax_inT ⟨List.mem_of_getElem? (i := 584) (by decide +kernel), by decide +kernel⟩
theorem wl_X7_76 : Cond.methodLink RX7 76 yX0_versionIn ∈ ax_T := ax_inT ⟨List.mem_of_getElem? (i := 596) (by decide +kernel), by decide +kernel⟩
theorem wl_X7_89 : Cond.methodLink RX7 89 yJ6_bitCount_0f7a4 ∈ ax_T := ax_inT ⟨List.mem_of_getElem? (i := 601) (by decide +kernel), by decide +kernel⟩
theorem wl_X7_94 : Cond.methodLink RX7 94 yJ9_min_7cf53 ∈ ax_T := ax_inT ⟨List.mem_of_getElem? (i := 602) (by decide +kernel), by decide +kernel⟩
theorem wl_X8_15 : Cond.methodLink RX8 15 yX8_startPack ∈ ax_T := ax_inT ⟨List.mem_of_getElem? (i := 394) (by decide +kernel), by decide +kernel⟩
theorem wl_X8_34 : Cond.methodLink RX8 34 yX8_mayEnd ∈ ax_T := ax_inT ⟨List.mem_of_getElem? (i := 402) (by decide +kernel), by decide +kernel⟩
theorem wl_X8_38 : Cond.methodLink RX8 38 yX8_readsSection ∈ ax_T := ax_inT ⟨List.mem_of_getElem? (i := 406) (by decide +kernel), by decide +kernel⟩
theorem wl_X8_42 : Cond.methodLink RX8 42 yX8_readsSign ∈ ax_T := ax_inT ⟨List.mem_of_getElem? (i := 410) (by decide +kernel), by decide +kernel⟩
theorem wl_X8_46 : Cond.methodLink RX8 46 yX8_readsDigit ∈ ax_T := ax_inT ⟨List.mem_of_getElem? (i := 414) (by decide +kernel), by decide +kernel⟩
theorem wl_X8_50 : Cond.methodLink RX8 50 yX8_readsLetter ∈ ax_T := ax_inT ⟨List.mem_of_getElem? (i := 418) (by decide +kernel), by decide +kernel⟩
theorem wl_L_7 : Cond.methodLink RL 7 yX9_begin ∈ ax_T := ax_inT ⟨List.mem_of_getElem? (i := 661) (by decide +kernel), by decide +kernel⟩
theorem wl_L_15 : Cond.methodLink RL 15 yX9_addPackage ∈ ax_T := ax_inT ⟨List.mem_of_getElem? (i := 746) (by decide +kernel), by decide +kernel⟩
theorem wl_L_23 : Cond.methodLink RL 23 yX9_publish ∈ ax_T := ax_inT ⟨List.mem_of_getElem? (i := 797) (by decide +kernel), by decide +kernel⟩
theorem wl_L_26 : Cond.methodLink RL 26 yX9_release ∈ ax_T := ax_inT ⟨List.mem_of_getElem? (i := 810) (by decide +kernel), by decide +kernel⟩
theorem wl_L_30 : Cond.methodLink RL 30 yX9_setValidity ∈ ax_T := ax_inT ⟨List.mem_of_getElem? (i := 827) (by decide +kernel), by decide +kernel⟩
theorem wl_L_33 : Cond.methodLink RL 33 yX9_append ∈ ax_T := ax_inT ⟨List.mem_of_getElem? (i := 835) (by decide +kernel), by decide +kernel⟩
theorem wl_L_36 : Cond.methodLink RL 36 yX9_load ∈ ax_T := ax_inT ⟨List.mem_of_getElem? (i := 848) (by decide +kernel), by decide +kernel⟩
theorem wl_L_39 : Cond.methodLink RL 39 yX9_addMirror ∈ ax_T := ax_inT ⟨List.mem_of_getElem? (i := 867) (by decide +kernel), by decide +kernel⟩
theorem wl_L_43 : Cond.methodLink RL 43 yX9_tamper ∈ ax_T := ax_inT ⟨List.mem_of_getElem? (i := 884) (by decide +kernel), by decide +kernel⟩
theorem wl_L_46 : Cond.methodLink RL 46 yX9_removeFile ∈ ax_T := ax_inT ⟨List.mem_of_getElem? (i := 897) (by decide +kernel), by decide +kernel⟩
theorem wl_L_49 : Cond.methodLink RL 49 yX9_pass ∈ ax_T := ax_inT ⟨List.mem_of_getElem? (i := 911) (by decide +kernel), by decide +kernel⟩
theorem wl_L_52 : Cond.methodLink RL 52 yX9_mirror ∈ ax_T := ax_inT ⟨List.mem_of_getElem? (i := 919) (by decide +kernel), by decide +kernel⟩
theorem wl_L_56 : Cond.methodLink RL 56 yX9_files ∈ ax_T := ax_inT ⟨List.mem_of_getElem? (i := 930) (by decide +kernel), by decide +kernel⟩
theorem wl_L_59 : Cond.methodLink RL 59 yX9_addClient ∈ ax_T := ax_inT ⟨List.mem_of_getElem? (i := 937) (by decide +kernel), by decide +kernel⟩
theorem wl_L_62 : Cond.methodLink RL 62 yX9_install ∈ ax_T := ax_inT ⟨List.mem_of_getElem? (i := 950) (by decide +kernel), by decide +kernel⟩
theorem wl_L_65 : Cond.methodLink RL 65 yX9_ifInstalled ∈ ax_T := ax_inT ⟨List.mem_of_getElem? (i := 966) (by decide +kernel), by decide +kernel⟩
theorem wl_L_68 : Cond.methodLink RL 68 yX9_until ∈ ax_T := ax_inT ⟨List.mem_of_getElem? (i := 973) (by decide +kernel), by decide +kernel⟩
theorem wl_L_71 : Cond.methodLink RL 71 yX9_client ∈ ax_T := ax_inT ⟨List.mem_of_getElem? (i := 980) (by decide +kernel), by decide +kernel⟩
theorem wl_L_74 : Cond.methodLink RL 74 yX9_count ∈ ax_T := ax_inT ⟨List.mem_of_getElem? (i := 987) (by decide +kernel), by decide +kernel⟩
theorem wl_L_77 : Cond.methodLink RL 77 yX9_packageAt ∈ ax_T := ax_inT ⟨List.mem_of_getElem? (i := 994) (by decide +kernel), by decide +kernel⟩
theorem wl_L_80 : Cond.methodLink RL 80 yX9_index ∈ ax_T := ax_inT ⟨List.mem_of_getElem? (i := 1001) (by decide +kernel), by decide +kernel⟩
theorem wl_L_87 : Cond.methodLink RL 87 yL_begin ∈ ax_T := ax_inT ⟨List.mem_of_getElem? (i := 657) (by decide +kernel), by decide +kernel⟩
theorem wl_L_92 : Cond.methodLink RL 92 yX10_begin ∈ ax_T := ax_inT ⟨List.mem_of_getElem? (i := 1141) (by decide +kernel), by decide +kernel⟩
theorem wl_L_93 : Cond.methodLink RL 93 yX10_thrown ∈ ax_T := ax_inT ⟨List.mem_of_getElem? (i := 1137) (by decide +kernel), by decide +kernel⟩
theorem wl_L_96 : Cond.methodLink RL 96 yL_addPackage ∈ ax_T := ax_inT ⟨List.mem_of_getElem? (i := 741) (by decide +kernel), by decide +kernel⟩
theorem wl_L_99 : Cond.methodLink RL 99 yX10_addPackage ∈ ax_T := ax_inT ⟨List.mem_of_getElem? (i := 1148) (by decide +kernel), by decide +kernel⟩
theorem wl_L_100 : Cond.methodLink RL 100 yL_publish ∈ ax_T := ax_inT ⟨List.mem_of_getElem? (i := 794) (by decide +kernel), by decide +kernel⟩
theorem wl_L_102 : Cond.methodLink RL 102 yX10_publish ∈ ax_T := ax_inT ⟨List.mem_of_getElem? (i := 1160) (by decide +kernel), by decide +kernel⟩
theorem wl_L_103 : Cond.methodLink RL 103 yL_release ∈ ax_T := ax_inT ⟨List.mem_of_getElem? (i := 807) (by decide +kernel), by decide +kernel⟩
theorem wl_L_106 : Cond.methodLink RL 106 yX10_release ∈ ax_T := ax_inT ⟨List.mem_of_getElem? (i := 1168) (by decide +kernel), by decide +kernel⟩
theorem wl_L_107 : Cond.methodLink RL 107 yL_setValidity ∈ ax_T := ax_inT ⟨List.mem_of_getElem? (i := 824) (by decide +kernel), by decide +kernel⟩
theorem wl_L_109 : Cond.methodLink RL 109 yX10_setValidity ∈ ax_T := ax_inT ⟨List.mem_of_getElem? (i := 1173) (by decide +kernel), by decide +kernel⟩
theorem wl_L_110 : Cond.methodLink RL 110 yL_append ∈ ax_T := ax_inT ⟨List.mem_of_getElem? (i := 832) (by decide +kernel), by decide +kernel⟩
theorem wl_L_112 : Cond.methodLink RL 112 yX10_append ∈ ax_T := ax_inT ⟨List.mem_of_getElem? (i := 1177) (by decide +kernel), by decide +kernel⟩
theorem wl_L_113 : Cond.methodLink RL 113 yX9_clearInput ∈ ax_T := ax_inT ⟨List.mem_of_getElem? (i := 378) (by decide +kernel), by decide +kernel⟩
theorem wl_L_116 : Cond.methodLink RL 116 yX10_clearInput ∈ ax_T := ax_inT ⟨List.mem_of_getElem? (i := 1181) (by decide +kernel), by decide +kernel⟩
theorem wl_L_117 : Cond.methodLink RL 117 yX9_firstError ∈ ax_T := ax_inT ⟨List.mem_of_getElem? (i := 382) (by decide +kernel), by decide +kernel⟩
theorem wl_L_120 : Cond.methodLink RL 120 yX10_firstError ∈ ax_T := ax_inT ⟨List.mem_of_getElem? (i := 1185) (by decide +kernel), by decide +kernel⟩
theorem wl_L_121 : Cond.methodLink RL 121 yL_load ∈ ax_T := ax_inT ⟨List.mem_of_getElem? (i := 845) (by decide +kernel), by decide +kernel⟩
theorem wl_L_123 : Cond.methodLink RL 123 yX10_load ∈ ax_T := ax_inT ⟨List.mem_of_getElem? (i := 1217) (by decide +kernel), by decide +kernel⟩
theorem wl_L_124 : Cond.methodLink RL 124 yL_addMirror ∈ ax_T := ax_inT ⟨List.mem_of_getElem? (i := 864) (by decide +kernel), by decide +kernel⟩
theorem wl_L_127 : Cond.methodLink RL 127 yX10_addMirror ∈ ax_T := ax_inT ⟨List.mem_of_getElem? (i := 1221) (by decide +kernel), by decide +kernel⟩
theorem wl_L_128 : Cond.methodLink RL 128 yL_tamper ∈ ax_T := ax_inT ⟨List.mem_of_getElem? (i := 881) (by decide +kernel), by decide +kernel⟩
theorem wl_L_130 : Cond.methodLink RL 130 yX10_tamper ∈ ax_T := ax_inT ⟨List.mem_of_getElem? (i := 1229) (by decide +kernel), by decide +kernel⟩
theorem wl_L_131 : Cond.methodLink RL 131 yL_removeFile ∈ ax_T := ax_inT ⟨List.mem_of_getElem? (i := 894) (by decide +kernel), by decide +kernel⟩
theorem wl_L_133 : Cond.methodLink RL 133 yX10_removeFile ∈ ax_T := ax_inT ⟨List.mem_of_getElem? (i := 1233) (by decide +kernel), by decide +kernel⟩
theorem wl_L_134 : Cond.methodLink RL 134 yL_pass ∈ ax_T := ax_inT ⟨List.mem_of_getElem? (i := 908) (by decide +kernel), by decide +kernel⟩
theorem wl_L_136 : Cond.methodLink RL 136 yX10_pass ∈ ax_T := ax_inT ⟨List.mem_of_getElem? (i := 1247) (by decide +kernel), by decide +kernel⟩
theorem wl_L_137 : Cond.methodLink RL 137 yL_mirror ∈ ax_T := ax_inT ⟨List.mem_of_getElem? (i := 916) (by decide +kernel), by decide +kernel⟩
theorem wl_L_140 : Cond.methodLink RL 140 yX10_mirror ∈ ax_T := ax_inT ⟨List.mem_of_getElem? (i := 1275) (by decide +kernel), by decide +kernel⟩
theorem wl_L_141 : Cond.methodLink RL 141 yL_files ∈ ax_T := ax_inT ⟨List.mem_of_getElem? (i := 927) (by decide +kernel), by decide +kernel⟩
theorem wl_L_143 : Cond.methodLink RL 143 yX10_files ∈ ax_T := ax_inT ⟨List.mem_of_getElem? (i := 1291) (by decide +kernel), by decide +kernel⟩
theorem wl_L_144 : Cond.methodLink RL 144 yL_addClient ∈ ax_T := ax_inT ⟨List.mem_of_getElem? (i := 934) (by decide +kernel), by decide +kernel⟩
theorem wl_L_146 : Cond.methodLink RL 146 yX10_addClient ∈ ax_T := ax_inT ⟨List.mem_of_getElem? (i := 1295) (by decide +kernel), by decide +kernel⟩
theorem wl_L_147 : Cond.methodLink RL 147 yL_install ∈ ax_T := ax_inT ⟨List.mem_of_getElem? (i := 947) (by decide +kernel), by decide +kernel⟩
theorem wl_L_149 : Cond.methodLink RL 149 yX10_install ∈ ax_T := ax_inT ⟨List.mem_of_getElem? (i := 1299) (by decide +kernel), by decide +kernel⟩
theorem wl_L_150 : Cond.methodLink RL 150 yL_ifInstalled ∈ ax_T := ax_inT ⟨List.mem_of_getElem? (i := 963) (by decide +kernel), by decide +kernel⟩
theorem wl_L_152 : Cond.methodLink RL 152 yX10_ifInstalled ∈ ax_T := ax_inT ⟨List.mem_of_getElem? (i := 1335) (by decide +kernel), by decide +kernel⟩
theorem wl_L_153 : Cond.methodLink RL 153 yL_until ∈ ax_T := ax_inT ⟨List.mem_of_getElem? (i := 970) (by decide +kernel), by decide +kernel⟩
theorem wl_L_155 : Cond.methodLink RL 155 yX10_until ∈ ax_T := ax_inT ⟨List.mem_of_getElem? (i := 1351) (by decide +kernel), by decide +kernel⟩
theorem wl_L_156 : Cond.methodLink RL 156 yL_client ∈ ax_T := ax_inT ⟨List.mem_of_getElem? (i := 977) (by decide +kernel), by decide +kernel⟩
theorem wl_L_158 : Cond.methodLink RL 158 yX10_client ∈ ax_T := ax_inT ⟨List.mem_of_getElem? (i := 1367) (by decide +kernel), by decide +kernel⟩
theorem wl_L_159 : Cond.methodLink RL 159 yL_count ∈ ax_T := ax_inT ⟨List.mem_of_getElem? (i := 984) (by decide +kernel), by decide +kernel⟩
theorem wl_L_161 : Cond.methodLink RL 161 yX10_count ∈ ax_T := ax_inT ⟨List.mem_of_getElem? (i := 1375) (by decide +kernel), by decide +kernel⟩
theorem wl_L_162 : Cond.methodLink RL 162 yL_packageAt ∈ ax_T := ax_inT ⟨List.mem_of_getElem? (i := 991) (by decide +kernel), by decide +kernel⟩
theorem wl_L_164 : Cond.methodLink RL 164 yX10_packageAt ∈ ax_T := ax_inT ⟨List.mem_of_getElem? (i := 1383) (by decide +kernel), by decide +kernel⟩
theorem wl_L_165 : Cond.methodLink RL 165 yL_index ∈ ax_T := ax_inT ⟨List.mem_of_getElem? (i := 998) (by decide +kernel), by decide +kernel⟩
theorem wl_L_167 : Cond.methodLink RL 167 yX10_index ∈ ax_T := ax_inT ⟨List.mem_of_getElem? (i := 1395) (by decide +kernel), by decide +kernel⟩
theorem wl_L_168 : Cond.methodLink RL 168 yX9_meanAge ∈ ax_T := ax_inT ⟨List.mem_of_getElem? (i := 425) (by decide +kernel), by decide +kernel⟩
theorem wl_L_172 : Cond.methodLink RL 172 yX10_meanAge ∈ ax_T := ax_inT ⟨List.mem_of_getElem? (i := 1407) (by decide +kernel), by decide +kernel⟩
theorem wl_L_173 : Cond.methodLink RL 173 yX9_digest ∈ ax_T := ax_inT ⟨List.mem_of_getElem? (i := 441) (by decide +kernel), by decide +kernel⟩
theorem wl_L_177 : Cond.methodLink RL 177 yX10_digest ∈ ax_T := ax_inT ⟨List.mem_of_getElem? (i := 1411) (by decide +kernel), by decide +kernel⟩
theorem wl_X10_102 : Cond.methodLink RX10 102 yX10_within ∈ ax_T := ax_inT ⟨List.mem_of_getElem? (i := 1145) (by decide +kernel), by decide +kernel⟩
theorem wl_X10_121 : Cond.methodLink RX10 121 yX10_isSetOf ∈ ax_T := ax_inT ⟨List.mem_of_getElem? (i := 1152) (by decide +kernel), by decide +kernel⟩
theorem wl_X10_125 : Cond.methodLink RX10 125 yX10_putPackage ∈ ax_T := ax_inT ⟨List.mem_of_getElem? (i := 1156) (by decide +kernel), by decide +kernel⟩
theorem wl_X10_129 : Cond.methodLink RX10 129 yX10_isPackage ∈ ax_T := ax_inT ⟨List.mem_of_getElem? (i := 1164) (by decide +kernel), by decide +kernel⟩
theorem wl_X10_149 : Cond.methodLink RX10 149 yX10_mayEnd ∈ ax_T := ax_inT ⟨List.mem_of_getElem? (i := 1197) (by decide +kernel), by decide +kernel⟩
theorem wl_X10_153 : Cond.methodLink RX10 153 yX10_endItem ∈ ax_T := ax_inT ⟨List.mem_of_getElem? (i := 1201) (by decide +kernel), by decide +kernel⟩
theorem wl_X10_156 : Cond.methodLink RX10 156 yX10_takesSection ∈ ax_T := ax_inT ⟨List.mem_of_getElem? (i := 1205) (by decide +kernel), by decide +kernel⟩
theorem wl_X10_159 : Cond.methodLink RX10 159 yX10_takesSize ∈ ax_T := ax_inT ⟨List.mem_of_getElem? (i := 1209) (by decide +kernel), by decide +kernel⟩
theorem wl_X10_162 : Cond.methodLink RX10 162 yX10_takesLetter ∈ ax_T := ax_inT ⟨List.mem_of_getElem? (i := 1213) (by decide +kernel), by decide +kernel⟩
theorem wl_X10_165 : Cond.methodLink RX10 165 yX10_takes ∈ ax_T := ax_inT ⟨List.mem_of_getElem? (i := 1193) (by decide +kernel), by decide +kernel⟩
theorem wl_X10_168 : Cond.methodLink RX10 168 yX10_rightLength ∈ ax_T := ax_inT ⟨List.mem_of_getElem? (i := 1189) (by decide +kernel), by decide +kernel⟩
theorem wl_X10_172 : Cond.methodLink RX10 172 yX10_isMirror ∈ ax_T := ax_inT ⟨List.mem_of_getElem? (i := 1225) (by decide +kernel), by decide +kernel⟩
theorem wl_X10_175 : Cond.methodLink RX10 175 yX10_bits ∈ ax_T := ax_inT ⟨List.mem_of_getElem? (i := 1244) (by decide +kernel), by decide +kernel⟩
theorem wl_X10_179 : Cond.methodLink RX10 179 yX10_has ∈ ax_T := ax_inT ⟨List.mem_of_getElem? (i := 1237) (by decide +kernel), by decide +kernel⟩
theorem wl_X10_182 : Cond.methodLink RX10 182 yX10_fileCount ∈ ax_T := ax_inT ⟨List.mem_of_getElem? (i := 1240) (by decide +kernel), by decide +kernel⟩
theorem wl_X10_185 : Cond.methodLink RX10 185 yX10_toldBy ∈ ax_T := ax_inT ⟨List.mem_of_getElem? (i := 1263) (by decide +kernel), by decide +kernel⟩
theorem wl_X10_189 : Cond.methodLink RX10 189 yX10_wants ∈ ax_T := ax_inT ⟨List.mem_of_getElem? (i := 1267) (by decide +kernel), by decide +kernel⟩
theorem wl_X10_192 : Cond.methodLink RX10 192 yX10_copyFiles ∈ ax_T := ax_inT ⟨List.mem_of_getElem? (i := 1259) (by decide +kernel), by decide +kernel⟩
theorem wl_X10_195 : Cond.methodLink RX10 195 yX10_lacking ∈ ax_T := ax_inT ⟨List.mem_of_getElem? (i := 1271) (by decide +kernel), by decide +kernel⟩
theorem wl_X10_198 : Cond.methodLink RX10 198 yX10_pull ∈ ax_T := ax_inT ⟨List.mem_of_getElem? (i := 1255) (by decide +kernel), by decide +kernel⟩
theorem wl_X10_201 : Cond.methodLink RX10 201 yX10_minute ∈ ax_T := ax_inT ⟨List.mem_of_getElem? (i := 1251) (by decide +kernel), by decide +kernel⟩
theorem wl_X10_204 : Cond.methodLink RX10 204 yX10_nextPull ∈ ax_T := ax_inT ⟨List.mem_of_getElem? (i := 1283) (by decide +kernel), by decide +kernel⟩
theorem wl_X10_207 : Cond.methodLink RX10 207 yX10_isComplete ∈ ax_T := ax_inT ⟨List.mem_of_getElem? (i := 1287) (by decide +kernel), by decide +kernel⟩
theorem wl_X10_210 : Cond.methodLink RX10 210 yX10_mirrorNow ∈ ax_T := ax_inT ⟨List.mem_of_getElem? (i := 1279) (by decide +kernel), by decide +kernel⟩
theorem wl_X10_213 : Cond.methodLink RX10 213 yX10_isFresh ∈ ax_T := ax_inT ⟨List.mem_of_getElem? (i := 1315) (by decide +kernel), by decide +kernel⟩
theorem wl_X10_216 : Cond.methodLink RX10 216 yX10_installedSet ∈ ax_T := ax_inT ⟨List.mem_of_getElem? (i := 1323) (by decide +kernel), by decide +kernel⟩
theorem wl_X10_219 : Cond.methodLink RX10 219 yX10_closure ∈ ax_T := ax_inT ⟨List.mem_of_getElem? (i := 1327) (by decide +kernel), by decide +kernel⟩
theorem wl_X10_222 : Cond.methodLink RX10 222 yX10_indexFor ∈ ax_T := ax_inT ⟨List.mem_of_getElem? (i := 1311) (by decide +kernel), by decide +kernel⟩
theorem wl_X10_225 : Cond.methodLink RX10 225 yX10_wantedBy ∈ ax_T := ax_inT ⟨List.mem_of_getElem? (i := 1319) (by decide +kernel), by decide +kernel⟩
theorem wl_X10_228 : Cond.methodLink RX10 228 yX10_have ∈ ax_T := ax_inT ⟨List.mem_of_getElem? (i := 1331) (by decide +kernel), by decide +kernel⟩
theorem wl_X10_231 : Cond.methodLink RX10 231 yX10_isClient ∈ ax_T := ax_inT ⟨List.mem_of_getElem? (i := 1303) (by decide +kernel), by decide +kernel⟩
theorem wl_X10_234 : Cond.methodLink RX10 234 yX10_reason ∈ ax_T := ax_inT ⟨List.mem_of_getElem? (i := 1307) (by decide +kernel), by decide +kernel⟩
theorem wl_X10_237 : Cond.methodLink RX10 237 yX10_changing ∈ ax_T := ax_inT ⟨List.mem_of_getElem? (i := 1343) (by decide +kernel), by decide +kernel⟩
theorem wl_X10_241 : Cond.methodLink RX10 241 yX10_fewest ∈ ax_T := ax_inT ⟨List.mem_of_getElem? (i := 1347) (by decide +kernel), by decide +kernel⟩
theorem wl_X10_244 : Cond.methodLink RX10 244 yX10_would ∈ ax_T := ax_inT ⟨List.mem_of_getElem? (i := 1339) (by decide +kernel), by decide +kernel⟩
theorem wl_X10_247 : Cond.methodLink RX10 247 yX10_keep ∈ ax_T := ax_inT ⟨List.mem_of_getElem? (i := 1359) (by decide +kernel), by decide +kernel⟩
theorem wl_X10_250 : Cond.methodLink RX10 250 yX10_takeBack ∈ ax_T := ax_inT ⟨List.mem_of_getElem? (i := 1363) (by decide +kernel), by decide +kernel⟩
theorem wl_X10_253 : Cond.methodLink RX10 253 yX10_waits ∈ ax_T := ax_inT ⟨List.mem_of_getElem? (i := 1355) (by decide +kernel), by decide +kernel⟩
theorem wl_X10_256 : Cond.methodLink RX10 256 yX10_clientNow ∈ ax_T := ax_inT ⟨List.mem_of_getElem? (i := 1371) (by decide +kernel), by decide +kernel⟩
theorem wl_X10_259 : Cond.methodLink RX10 259 yX10_counted ∈ ax_T := ax_inT ⟨List.mem_of_getElem? (i := 1379) (by decide +kernel), by decide +kernel⟩
theorem wl_X10_262 : Cond.methodLink RX10 262 yX10_mirrorsWith ∈ ax_T := ax_inT ⟨List.mem_of_getElem? (i := 1391) (by decide +kernel), by decide +kernel⟩
theorem wl_X10_265 : Cond.methodLink RX10 265 yX10_packageNow ∈ ax_T := ax_inT ⟨List.mem_of_getElem? (i := 1387) (by decide +kernel), by decide +kernel⟩
theorem wl_X10_268 : Cond.methodLink RX10 268 yX10_packagesOf ∈ ax_T := ax_inT ⟨List.mem_of_getElem? (i := 1403) (by decide +kernel), by decide +kernel⟩
theorem wl_X10_271 : Cond.methodLink RX10 271 yX10_indexNow ∈ ax_T := ax_inT ⟨List.mem_of_getElem? (i := 1399) (by decide +kernel), by decide +kernel⟩
theorem wl_X10_280 : Cond.methodLink RX10 280 yX10_mix ∈ ax_T := ax_inT ⟨List.mem_of_getElem? (i := 1416) (by decide +kernel), by decide +kernel⟩
theorem wl_X10_286 : Cond.methodLink RX10 286 yX10_mixIndexes ∈ ax_T := ax_inT ⟨List.mem_of_getElem? (i := 1421) (by decide +kernel), by decide +kernel⟩
theorem wl_X10_289 : Cond.methodLink RX10 289 yX10_mixMirrors ∈ ax_T := ax_inT ⟨List.mem_of_getElem? (i := 1425) (by decide +kernel), by decide +kernel⟩
theorem wl_X10_292 : Cond.methodLink RX10 292 yX10_mixClients ∈ ax_T := ax_inT ⟨List.mem_of_getElem? (i := 1429) (by decide +kernel), by decide +kernel⟩
