set_option maxRecDepth 20000 in
theorem q_75 : Cond.selects RX12 yX12_isLane yX12_isLane ∈ lw_gd := mem_gd (List.mem_of_getElem? (i := 75) (by decide +kernel)) rfl
set_option maxRecDepth 20000 in
theorem q_76 : Cond.selects RX12 yX12_laysNow yX12_laysNow ∈ lw_gd := mem_gd (List.mem_of_getElem? (i := 76) (by decide +kernel)) rfl
set_option maxRecDepth 20000 in
theorem q_79 : Cond.selects RX12 yX12_isAtPoint yX12_isAtPoint ∈ lw_gd := mem_gd (List.mem_of_getElem? (i := 79) (by decide +kernel)) rfl
set_option maxRecDepth 20000 in
theorem q_80 : Cond.selects RX12 yX12_isPassed yX12_isPassed ∈ lw_gd := mem_gd (List.mem_of_getElem? (i := 80) (by decide +kernel)) rfl
set_option maxRecDepth 20000 in
theorem q_81 : Cond.selects RX12 yX12_isPattern yX12_isPattern ∈ lw_gd := mem_gd (List.mem_of_getElem? (i := 81) (by decide +kernel)) rfl
set_option maxRecDepth 20000 in
theorem q_82 : Cond.selects RX12 yX12_rowOf yX12_rowOf ∈ lw_gd := mem_gd (List.mem_of_getElem? (i := 82) (by decide +kernel)) rfl
set_option maxRecDepth 20000 in
theorem q_83 : Cond.selects RX12 yX12_risenOf yX12_risenOf ∈ lw_gd := mem_gd (List.mem_of_getElem? (i := 83) (by decide +kernel)) rfl
set_option maxRecDepth 20000 in
theorem q_84 : Cond.selects RX12 yX12_hasRisen yX12_hasRisen ∈ lw_gd := mem_gd (List.mem_of_getElem? (i := 84) (by decide +kernel)) rfl
set_option maxRecDepth 20000 in
theorem q_88 : Cond.selects RX12 yX12_edgeOf yX12_edgeOf ∈ lw_gd := mem_gd (List.mem_of_getElem? (i := 88) (by decide +kernel)) rfl
set_option maxRecDepth 20000 in
theorem q_89 : Cond.selects RX12 yX12_laysMap yX12_laysMap ∈ lw_gd := mem_gd (List.mem_of_getElem? (i := 89) (by decide +kernel)) rfl
set_option maxRecDepth 20000 in
theorem q_90 : Cond.selects RX12 yX12_areaNow yX12_areaNow ∈ lw_gd := mem_gd (List.mem_of_getElem? (i := 90) (by decide +kernel)) rfl
set_option maxRecDepth 20000 in
theorem q_91 : Cond.selects RX12 yX12_laysRectangle yX12_laysRectangle ∈ lw_gd := mem_gd (List.mem_of_getElem? (i := 91) (by decide +kernel)) rfl
set_option maxRecDepth 20000 in
theorem q_92 : Cond.selects RX12 yX12_longestIn yX12_longestIn ∈ lw_gd := mem_gd (List.mem_of_getElem? (i := 92) (by decide +kernel)) rfl
set_option maxRecDepth 20000 in
theorem q_93 : Cond.selects RX12 yX12_middleNow yX12_middleNow ∈ lw_gd := mem_gd (List.mem_of_getElem? (i := 93) (by decide +kernel)) rfl
set_option maxRecDepth 20000 in
theorem q_94 : Cond.selects RX12 yX12_laysEllipse yX12_laysEllipse ∈ lw_gd := mem_gd (List.mem_of_getElem? (i := 94) (by decide +kernel)) rfl
set_option maxRecDepth 20000 in
theorem q_95 : Cond.selects RX12 yX12_isMapped yX12_isMapped ∈ lw_gd := mem_gd (List.mem_of_getElem? (i := 95) (by decide +kernel)) rfl
set_option maxRecDepth 20000 in
theorem q_96 : Cond.selects RX12 yX12_apartFrom yX12_apartFrom ∈ lw_gd := mem_gd (List.mem_of_getElem? (i := 96) (by decide +kernel)) rfl
set_option maxRecDepth 20000 in
theorem q_99 : Cond.selects RX12 yX12_followedFrom yX12_followedFrom ∈ lw_gd := mem_gd (List.mem_of_getElem? (i := 99) (by decide +kernel)) rfl
set_option maxRecDepth 20000 in
theorem q_1247 : Cond.fieldLink RX12 36 "EyeTrainerModel" "map" "[I" ∈ lw_gd := mem_gd (List.mem_of_getElem? (i := 1247) (by decide +kernel)) rfl
set_option maxRecDepth 20000 in
theorem q_1248 : Cond.fieldLink RX12 275 "EyeTrainerModel" "rectangleMany" "I" ∈ lw_gd := mem_gd (List.mem_of_getElem? (i := 1248) (by decide +kernel)) rfl
set_option maxRecDepth 20000 in
theorem q_1249 : Cond.fieldLink RX12 282 "EyeTrainerModel" "left" "I" ∈ lw_gd := mem_gd (List.mem_of_getElem? (i := 1249) (by decide +kernel)) rfl
set_option maxRecDepth 20000 in
theorem q_1250 : Cond.fieldLink RX12 285 "EyeTrainerModel" "right" "I" ∈ lw_gd := mem_gd (List.mem_of_getElem? (i := 1250) (by decide +kernel)) rfl
set_option maxRecDepth 20000 in
theorem q_1251 : Cond.fieldLink RX12 288 "EyeTrainerModel" "low" "I" ∈ lw_gd := mem_gd (List.mem_of_getElem? (i := 1251) (by decide +kernel)) rfl
set_option maxRecDepth 20000 in
theorem q_1252 : Cond.fieldLink RX12 291 "EyeTrainerModel" "high" "I" ∈ lw_gd := mem_gd (List.mem_of_getElem? (i := 1252) (by decide +kernel)) rfl
set_option maxRecDepth 20000 in
theorem q_1253 : Cond.fieldLink RX12 298 "EyeTrainerModel" "ellipseSize" "I" ∈ lw_gd := mem_gd (List.mem_of_getElem? (i := 1253) (by decide +kernel)) rfl
set_option maxRecDepth 20000 in
theorem q_1254 : Cond.fieldLink RX12 304 "EyeTrainerModel" "ellipseCell" "I" ∈ lw_gd := mem_gd (List.mem_of_getElem? (i := 1254) (by decide +kernel)) rfl
set_option maxRecDepth 20000 in
theorem q_1255 : Cond.fieldLink RX12 272 "EyeTrainerModel" "firstOf" "I" ∈ lw_gd := mem_gd (List.mem_of_getElem? (i := 1255) (by decide +kernel)) rfl
set_option maxRecDepth 20000 in
theorem q_1256 : Cond.fieldLink RX12 39 "EyeTrainerModel" "was" "[I" ∈ lw_gd := mem_gd (List.mem_of_getElem? (i := 1256) (by decide +kernel)) rfl
set_option maxRecDepth 20000 in
theorem q_1257 : Cond.fieldLink RX12 312 "EyeTrainerModel" "trained" "I" ∈ lw_gd := mem_gd (List.mem_of_getElem? (i := 1257) (by decide +kernel)) rfl
set_option maxRecDepth 20000 in
theorem q_1478 : Cond.code yX12_lane cX12_lane 3 (some .int) ∈ lw_gd := mem_gd (List.mem_of_getElem? (i := 1478) (by decide +kernel)) rfl
set_option maxRecDepth 20000 in
theorem q_1479 : Cond.methodLink RX12 247 yX12_isLane ∈ lw_gd := mem_gd (List.mem_of_getElem? (i := 1479) (by decide +kernel)) rfl
set_option maxRecDepth 20000 in
theorem q_1481 : Cond.instanceMethod yX12_isLane ∈ lw_gd := mem_gd (List.mem_of_getElem? (i := 1481) (by decide +kernel)) rfl
set_option maxRecDepth 20000 in
theorem q_1483 : Cond.methodLink RX12 251 yX12_laysNow ∈ lw_gd := mem_gd (List.mem_of_getElem? (i := 1483) (by decide +kernel)) rfl
set_option maxRecDepth 20000 in
theorem q_1485 : Cond.instanceMethod yX12_laysNow ∈ lw_gd := mem_gd (List.mem_of_getElem? (i := 1485) (by decide +kernel)) rfl
set_option maxRecDepth 20000 in
theorem q_1500 : Cond.methodLink RX12 254 yX12_isAtPoint ∈ lw_gd := mem_gd (List.mem_of_getElem? (i := 1500) (by decide +kernel)) rfl
set_option maxRecDepth 20000 in
theorem q_1502 : Cond.instanceMethod yX12_isAtPoint ∈ lw_gd := mem_gd (List.mem_of_getElem? (i := 1502) (by decide +kernel)) rfl
set_option maxRecDepth 20000 in
theorem q_1503 : Cond.code yX12_isAtPoint cX12_isAtPoint 2 (some .boolean) ∈ lw_gd := mem_gd (List.mem_of_getElem? (i := 1503) (by decide +kernel)) rfl
set_option maxRecDepth 20000 in
theorem q_1504 : Cond.methodLink RX12 229 yX12_isPassed ∈ lw_gd := mem_gd (List.mem_of_getElem? (i := 1504) (by decide +kernel)) rfl
set_option maxRecDepth 20000 in
theorem q_1506 : Cond.instanceMethod yX12_isPassed ∈ lw_gd := mem_gd (List.mem_of_getElem? (i := 1506) (by decide +kernel)) rfl
set_option maxRecDepth 20000 in
theorem q_1514 : Cond.code yX12_stress cX12_stress 2 (some .int) ∈ lw_gd := mem_gd (List.mem_of_getElem? (i := 1514) (by decide +kernel)) rfl
set_option maxRecDepth 20000 in
theorem q_1515 : Cond.methodLink RX12 257 yX12_isPattern ∈ lw_gd := mem_gd (List.mem_of_getElem? (i := 1515) (by decide +kernel)) rfl
set_option maxRecDepth 20000 in
theorem q_1517 : Cond.instanceMethod yX12_isPattern ∈ lw_gd := mem_gd (List.mem_of_getElem? (i := 1517) (by decide +kernel)) rfl
set_option maxRecDepth 20000 in
theorem q_1522 : Cond.code yX12_drift cX12_drift 2 (some .int) ∈ lw_gd := mem_gd (List.mem_of_getElem? (i := 1522) (by decide +kernel)) rfl
set_option maxRecDepth 20000 in
theorem q_1523 : Cond.constantLong RX12 260 (9999) ∈ lw_gd := mem_gd (List.mem_of_getElem? (i := 1523) (by decide +kernel)) rfl
set_option maxRecDepth 20000 in
theorem q_1524 : Cond.constant RX12 262 (-99000003) ∈ lw_gd := mem_gd (List.mem_of_getElem? (i := 1524) (by decide +kernel)) rfl
set_option maxRecDepth 20000 in
theorem q_1528 : Cond.code yX12_passes cX12_passes 3 (some .int) ∈ lw_gd := mem_gd (List.mem_of_getElem? (i := 1528) (by decide +kernel)) rfl
set_option maxRecDepth 20000 in
theorem q_1529 : Cond.methodLink RX12 263 yX12_isCell ∈ lw_gd := mem_gd (List.mem_of_getElem? (i := 1529) (by decide +kernel)) rfl
set_option maxRecDepth 20000 in
theorem q_1530 : Cond.static yX12_isCell ∈ lw_gd := mem_gd (List.mem_of_getElem? (i := 1530) (by decide +kernel)) rfl
set_option maxRecDepth 20000 in
theorem q_1536 : Cond.code yX12_row cX12_row 3 (some .int) ∈ lw_gd := mem_gd (List.mem_of_getElem? (i := 1536) (by decide +kernel)) rfl
set_option maxRecDepth 20000 in
theorem q_1537 : Cond.constantLong RX12 238 (15) ∈ lw_gd := mem_gd (List.mem_of_getElem? (i := 1537) (by decide +kernel)) rfl
set_option maxRecDepth 20000 in
theorem q_1538 : Cond.methodLink RX12 233 yX12_rowOf ∈ lw_gd := mem_gd (List.mem_of_getElem? (i := 1538) (by decide +kernel)) rfl
set_option maxRecDepth 20000 in
theorem q_1540 : Cond.instanceMethod yX12_rowOf ∈ lw_gd := mem_gd (List.mem_of_getElem? (i := 1540) (by decide +kernel)) rfl
set_option maxRecDepth 20000 in
theorem q_1541 : Cond.code yX12_rowOf cX12_rowOf 5 (some .int) ∈ lw_gd := mem_gd (List.mem_of_getElem? (i := 1541) (by decide +kernel)) rfl
set_option maxRecDepth 20000 in
theorem q_1545 : Cond.code yX12_risen cX12_risen 2 (some .int) ∈ lw_gd := mem_gd (List.mem_of_getElem? (i := 1545) (by decide +kernel)) rfl
set_option maxRecDepth 20000 in
theorem q_1546 : Cond.methodLink RX12 269 yX12_risenOf ∈ lw_gd := mem_gd (List.mem_of_getElem? (i := 1546) (by decide +kernel)) rfl
set_option maxRecDepth 20000 in
theorem q_1548 : Cond.instanceMethod yX12_risenOf ∈ lw_gd := mem_gd (List.mem_of_getElem? (i := 1548) (by decide +kernel)) rfl
set_option maxRecDepth 20000 in
theorem q_1549 : Cond.code yX12_risenOf cX12_risenOf 4 (some .int) ∈ lw_gd := mem_gd (List.mem_of_getElem? (i := 1549) (by decide +kernel)) rfl
set_option maxRecDepth 20000 in
theorem q_1550 : Cond.methodLink RX12 266 yX12_hasRisen ∈ lw_gd := mem_gd (List.mem_of_getElem? (i := 1550) (by decide +kernel)) rfl
set_option maxRecDepth 20000 in
theorem q_1552 : Cond.instanceMethod yX12_hasRisen ∈ lw_gd := mem_gd (List.mem_of_getElem? (i := 1552) (by decide +kernel)) rfl
set_option maxRecDepth 20000 in
theorem q_1561 : Cond.code yX12_stores cX12_stores 2 none ∈ lw_gd := mem_gd (List.mem_of_getElem? (i := 1561) (by decide +kernel)) rfl
set_option maxRecDepth 20000 in
theorem q_1565 : Cond.code yX12_notes cX12_notes 2 none ∈ lw_gd := mem_gd (List.mem_of_getElem? (i := 1565) (by decide +kernel)) rfl
set_option maxRecDepth 20000 in
theorem q_1573 : Cond.code yX12_whyTrain cX12_whyTrain 6 (some .int) ∈ lw_gd := mem_gd (List.mem_of_getElem? (i := 1573) (by decide +kernel)) rfl
set_option maxRecDepth 20000 in
theorem q_1574 : Cond.constantLong RX12 307 (2) ∈ lw_gd := mem_gd (List.mem_of_getElem? (i := 1574) (by decide +kernel)) rfl
set_option maxRecDepth 20000 in
theorem q_1575 : Cond.methodLink RX12 309 yX12_edgeOf ∈ lw_gd := mem_gd (List.mem_of_getElem? (i := 1575) (by decide +kernel)) rfl
set_option maxRecDepth 20000 in
theorem q_1577 : Cond.instanceMethod yX12_edgeOf ∈ lw_gd := mem_gd (List.mem_of_getElem? (i := 1577) (by decide +kernel)) rfl
set_option maxRecDepth 20000 in
theorem q_1578 : Cond.code yX12_edgeOf cX12_edgeOf 6 (some .int) ∈ lw_gd := mem_gd (List.mem_of_getElem? (i := 1578) (by decide +kernel)) rfl
set_option maxRecDepth 20000 in
theorem q_1579 : Cond.methodLink RX12 240 yX12_isIn ∈ lw_gd := mem_gd (List.mem_of_getElem? (i := 1579) (by decide +kernel)) rfl
set_option maxRecDepth 20000 in
theorem q_1580 : Cond.static yX12_isIn ∈ lw_gd := mem_gd (List.mem_of_getElem? (i := 1580) (by decide +kernel)) rfl
set_option maxRecDepth 20000 in
theorem q_1582 : Cond.methodLink RX12 315 yX12_laysMap ∈ lw_gd := mem_gd (List.mem_of_getElem? (i := 1582) (by decide +kernel)) rfl
set_option maxRecDepth 20000 in
theorem q_1584 : Cond.instanceMethod yX12_laysMap ∈ lw_gd := mem_gd (List.mem_of_getElem? (i := 1584) (by decide +kernel)) rfl
set_option maxRecDepth 20000 in
theorem q_1585 : Cond.code yX12_laysMap cX12_laysMap 3 none ∈ lw_gd := mem_gd (List.mem_of_getElem? (i := 1585) (by decide +kernel)) rfl
set_option maxRecDepth 20000 in
theorem q_1586 : Cond.methodLink RX12 318 yX12_areaNow ∈ lw_gd := mem_gd (List.mem_of_getElem? (i := 1586) (by decide +kernel)) rfl
set_option maxRecDepth 20000 in
theorem q_1588 : Cond.instanceMethod yX12_areaNow ∈ lw_gd := mem_gd (List.mem_of_getElem? (i := 1588) (by decide +kernel)) rfl
set_option maxRecDepth 20000 in
theorem q_1589 : Cond.code yX12_areaNow cX12_areaNow 3 (some .int) ∈ lw_gd := mem_gd (List.mem_of_getElem? (i := 1589) (by decide +kernel)) rfl
set_option maxRecDepth 20000 in
theorem q_1590 : Cond.methodLink RX12 244 yX12_bitsOf ∈ lw_gd := mem_gd (List.mem_of_getElem? (i := 1590) (by decide +kernel)) rfl
set_option maxRecDepth 20000 in
theorem q_1591 : Cond.static yX12_bitsOf ∈ lw_gd := mem_gd (List.mem_of_getElem? (i := 1591) (by decide +kernel)) rfl
set_option maxRecDepth 20000 in
theorem q_1593 : Cond.methodLink RX12 321 yX12_laysRectangle ∈ lw_gd := mem_gd (List.mem_of_getElem? (i := 1593) (by decide +kernel)) rfl
set_option maxRecDepth 20000 in
theorem q_1595 : Cond.instanceMethod yX12_laysRectangle ∈ lw_gd := mem_gd (List.mem_of_getElem? (i := 1595) (by decide +kernel)) rfl
set_option maxRecDepth 20000 in
theorem q_1596 : Cond.code yX12_laysRectangle cX12_laysRectangle 5 none ∈ lw_gd := mem_gd (List.mem_of_getElem? (i := 1596) (by decide +kernel)) rfl
set_option maxRecDepth 20000 in
theorem q_1597 : Cond.constant RX12 278 (16777215) ∈ lw_gd := mem_gd (List.mem_of_getElem? (i := 1597) (by decide +kernel)) rfl
set_option maxRecDepth 20000 in
theorem q_1598 : Cond.methodLink RX12 279 yX12_longestIn ∈ lw_gd := mem_gd (List.mem_of_getElem? (i := 1598) (by decide +kernel)) rfl
set_option maxRecDepth 20000 in
theorem q_1600 : Cond.instanceMethod yX12_longestIn ∈ lw_gd := mem_gd (List.mem_of_getElem? (i := 1600) (by decide +kernel)) rfl
set_option maxRecDepth 20000 in
theorem q_1601 : Cond.code yX12_longestIn cX12_longestIn 5 (some .int) ∈ lw_gd := mem_gd (List.mem_of_getElem? (i := 1601) (by decide +kernel)) rfl
set_option maxRecDepth 20000 in
theorem q_1602 : Cond.methodLink RX12 324 yX12_middleNow ∈ lw_gd := mem_gd (List.mem_of_getElem? (i := 1602) (by decide +kernel)) rfl
set_option maxRecDepth 20000 in
theorem q_1604 : Cond.instanceMethod yX12_middleNow ∈ lw_gd := mem_gd (List.mem_of_getElem? (i := 1604) (by decide +kernel)) rfl
set_option maxRecDepth 20000 in
theorem q_1605 : Cond.code yX12_middleNow cX12_middleNow 1 (some .int) ∈ lw_gd := mem_gd (List.mem_of_getElem? (i := 1605) (by decide +kernel)) rfl
set_option maxRecDepth 20000 in
theorem q_1606 : Cond.methodLink RX12 327 yX12_laysEllipse ∈ lw_gd := mem_gd (List.mem_of_getElem? (i := 1606) (by decide +kernel)) rfl
set_option maxRecDepth 20000 in
theorem q_1608 : Cond.instanceMethod yX12_laysEllipse ∈ lw_gd := mem_gd (List.mem_of_getElem? (i := 1608) (by decide +kernel)) rfl
set_option maxRecDepth 20000 in
theorem q_1609 : Cond.code yX12_laysEllipse cX12_laysEllipse 3 none ∈ lw_gd := mem_gd (List.mem_of_getElem? (i := 1609) (by decide +kernel)) rfl
set_option maxRecDepth 20000 in
theorem q_1610 : Cond.methodLink RX12 295 yX12_isMapped ∈ lw_gd := mem_gd (List.mem_of_getElem? (i := 1610) (by decide +kernel)) rfl
set_option maxRecDepth 20000 in
theorem q_1612 : Cond.instanceMethod yX12_isMapped ∈ lw_gd := mem_gd (List.mem_of_getElem? (i := 1612) (by decide +kernel)) rfl
set_option maxRecDepth 20000 in
theorem q_1613 : Cond.code yX12_isMapped cX12_isMapped 3 (some .boolean) ∈ lw_gd := mem_gd (List.mem_of_getElem? (i := 1613) (by decide +kernel)) rfl
set_option maxRecDepth 20000 in
theorem q_1614 : Cond.constantLong RX12 236 (23) ∈ lw_gd := mem_gd (List.mem_of_getElem? (i := 1614) (by decide +kernel)) rfl
set_option maxRecDepth 20000 in
theorem q_1615 : Cond.methodLink RX12 301 yX12_apartFrom ∈ lw_gd := mem_gd (List.mem_of_getElem? (i := 1615) (by decide +kernel)) rfl
set_option maxRecDepth 20000 in
theorem q_1617 : Cond.instanceMethod yX12_apartFrom ∈ lw_gd := mem_gd (List.mem_of_getElem? (i := 1617) (by decide +kernel)) rfl
set_option maxRecDepth 20000 in
theorem q_1618 : Cond.code yX12_apartFrom cX12_apartFrom 7 (some .int) ∈ lw_gd := mem_gd (List.mem_of_getElem? (i := 1618) (by decide +kernel)) rfl
set_option maxRecDepth 20000 in
theorem q_1619 : Cond.constant RX12 294 (268435456) ∈ lw_gd := mem_gd (List.mem_of_getElem? (i := 1619) (by decide +kernel)) rfl
set_option maxRecDepth 20000 in
theorem q_1632 : Cond.code yX12_goesTick cX12_goesTick 3 none ∈ lw_gd := mem_gd (List.mem_of_getElem? (i := 1632) (by decide +kernel)) rfl
set_option maxRecDepth 20000 in
theorem q_1633 : Cond.methodLink RX12 330 yX12_followedFrom ∈ lw_gd := mem_gd (List.mem_of_getElem? (i := 1633) (by decide +kernel)) rfl
set_option maxRecDepth 20000 in
theorem q_1635 : Cond.instanceMethod yX12_followedFrom ∈ lw_gd := mem_gd (List.mem_of_getElem? (i := 1635) (by decide +kernel)) rfl
set_option maxRecDepth 20000 in
theorem q_1636 : Cond.code yX12_followedFrom cX12_followedFrom 8 (some .int) ∈ lw_gd := mem_gd (List.mem_of_getElem? (i := 1636) (by decide +kernel)) rfl
set_option maxRecDepth 20000 in
theorem q_1640 : Cond.code yX12_passedNow cX12_passedNow 3 (some .int) ∈ lw_gd := mem_gd (List.mem_of_getElem? (i := 1640) (by decide +kernel)) rfl
set_option maxRecDepth 20000 in
theorem q_1686 : Cond.code yX12_isAgain cX12_isAgain 2 none ∈ lw_gd := mem_gd (List.mem_of_getElem? (i := 1686) (by decide +kernel)) rfl
theorem dX12_rowOf_0 : decode cX12_rowOf 0 = .ok (.iconst 0, 1) := by decide +kernel
theorem dX12_rowOf_1 : decode cX12_rowOf 1 = .ok (.istore_n 3, 1) := by decide +kernel
theorem dX12_rowOf_2 : decode cX12_rowOf 2 = .ok (.iconst 0, 1) := by decide +kernel
theorem dX12_rowOf_3 : decode cX12_rowOf 3 = .ok (.istore 4, 2) := by decide +kernel
theorem dX12_rowOf_5 : decode cX12_rowOf 5 = .ok (.iload 4, 2) := by decide +kernel
theorem dX12_rowOf_7 : decode cX12_rowOf 7 = .ok (.bipush 24, 2) := by decide +kernel
theorem dX12_rowOf_9 : decode cX12_rowOf 9 = .ok (.if_icmp .ge 35, 3) := by decide +kernel
theorem dX12_rowOf_12 : decode cX12_rowOf 12 = .ok (.iload_n 3, 1) := by decide +kernel
theorem dX12_rowOf_13 : decode cX12_rowOf 13 = .ok (.aload_n 0, 1) := by decide +kernel
theorem dX12_rowOf_14 : decode cX12_rowOf 14 = .ok (.iload_n 1, 1) := by decide +kernel
theorem dX12_rowOf_15 : decode cX12_rowOf 15 = .ok (.bipush 24, 2) := by decide +kernel
theorem dX12_rowOf_17 : decode cX12_rowOf 17 = .ok (.iload_n 2, 1) := by decide +kernel
theorem dX12_rowOf_18 : decode cX12_rowOf 18 = .ok (.imul, 1) := by decide +kernel
theorem dX12_rowOf_19 : decode cX12_rowOf 19 = .ok (.iload 4, 2) := by decide +kernel
theorem dX12_rowOf_21 : decode cX12_rowOf 21 = .ok (.iadd, 1) := by decide +kernel
theorem dX12_rowOf_22 : decode cX12_rowOf 22 = .ok (.invokevirtual 229, 3) := by decide +kernel
theorem dX12_rowOf_25 : decode cX12_rowOf 25 = .ok (.ifCond .eq 10, 3) := by decide +kernel
theorem dX12_rowOf_28 : decode cX12_rowOf 28 = .ok (.iconst 1, 1) := by decide +kernel
theorem dX12_rowOf_29 : decode cX12_rowOf 29 = .ok (.iload 4, 2) := by decide +kernel
theorem dX12_rowOf_31 : decode cX12_rowOf 31 = .ok (.ishl, 1) := by decide +kernel
theorem dX12_rowOf_32 : decode cX12_rowOf 32 = .ok (.goto 4, 3) := by decide +kernel
theorem dX12_rowOf_35 : decode cX12_rowOf 35 = .ok (.iconst 0, 1) := by decide +kernel
theorem dX12_rowOf_36 : decode cX12_rowOf 36 = .ok (.ior, 1) := by decide +kernel
theorem dX12_rowOf_37 : decode cX12_rowOf 37 = .ok (.istore_n 3, 1) := by decide +kernel
theorem dX12_rowOf_38 : decode cX12_rowOf 38 = .ok (.iinc 4 1, 3) := by decide +kernel
theorem dX12_rowOf_41 : decode cX12_rowOf 41 = .ok (.goto (-36), 3) := by decide +kernel
theorem dX12_rowOf_44 : decode cX12_rowOf 44 = .ok (.iload_n 3, 1) := by decide +kernel
theorem dX12_rowOf_45 : decode cX12_rowOf 45 = .ok (.ireturn, 1) := by decide +kernel
theorem wX12_rowOf : Mw yX12_rowOf cX12_rowOf 5 (some .int) 2 := ⟨q_1541, q_130, by decide, ⟨by decide +kernel, by decide +kernel⟩, by decide +kernel, by decide +kernel⟩
-- a loop of EyeTrainerModel.rowOf at 5
def bX12_rowOf_5 (T : Sh) (x0 : Nat) (x1 : Int32) (x2 : Int32) (x3 : Int32) (x4 : Int32) (M : Me) : Option ((Int32 × Int32 × Me) ⊕ ((Int32 × Me))) :=
  if (24 : Int32) ≤ x4 then (some (.inr (x3, M))) else (gd (kd T x0 = 11) <| Option.bind (fX12_isPassed T M x0 x1 (((24 : Int32) * x2) + x4)) <| un2 fun r3 M4 => if r3 = 0 then (lt (x3 ||| (0 : Int32)) fun v6 => lt (x4 + (1 : Int32)) fun v7 => some (.inl (v6, v7, M4))) else (lt (x3 ||| ((1 : Int32) <<< (x4 &&& 31))) fun v8 => lt (x4 + (1 : Int32)) fun v9 => some (.inl (v8, v9, M4))))
def PX12_rowOf_5 (X : Fx) (B : Bx) (Z : Nat × Nat × Nat × Nat) (Q : State → Prop) (T : Sh) (x0 : Nat) (x1 : Int32) (x2 : Int32) (s : Int32 × Int32 × Me) : Prop := G X B 5 Z Q 5 [(0, .ref (x0)), (1, .int (x1)), (2, .int (x2)), (3, .int (s.1)), (4, .int (s.2.1))] [] T s.2.2
def EX12_rowOf_5 (X : Fx) (B : Bx) (Z : Nat × Nat × Nat × Nat) (Q : State → Prop) (T : Sh) (x0 : Nat) (x1 : Int32) (x2 : Int32) (r : (Int32 × Me)) : Prop := G X B 5 Z Q 44 [(3, .int (r.1))] [] T r.2
set_option maxHeartbeats 4000000 in
theorem tbX12_rowOf_5 {X : Fx} {B : Bx} {Z : Nat × Nat × Nat × Nat} {Q : State → Prop} {d : Nat} {T : Sh} (C : Cx X B cX12_rowOf 5 RX12 d Z) (hd : 3 ≤ d) {x0 : Nat} {x1 : Int32} {x2 : Int32} : ∀ (s : Int32 × Int32 × Me) (o : (Int32 × Int32 × Me) ⊕ ((Int32 × Me))), bX12_rowOf_5 T x0 x1 x2 s.1 s.2.1 s.2.2 = some o → lpE (PX12_rowOf_5 X B Z Q T x0 x1 x2) (EX12_rowOf_5 X B Z Q T x0 x1 x2) o → PX12_rowOf_5 X B Z Q T x0 x1 x2 s := by
  rintro ⟨x3, x4, M⟩ o h hE
  replace h : bX12_rowOf_5 T x0 x1 x2 x3 x4 M = some o := h
  unfold bX12_rowOf_5 at h
  show G X B 5 Z Q 5 [(0, .ref (x0)), (1, .int (x1)), (2, .int (x2)), (3, .int (x3)), (4, .int (x4))] [] T M
  refine g_iload (pc := 5) C dX12_rowOf_5 4 rfl ?_
  refine g_bipush (pc := 7) (v := 24) C dX12_rowOf_7 (by decide) ?_
  refine g_icmp_ge (pc := 9) (tgt := 44) C dX12_rowOf_9 (by decide) (fun c1 => ?_) (fun c1 => ?_)
  · replace h := ifp c1 h
    obtain rfl := Option.some.inj h
    exact g_sub [3] rfl (show G X B 5 Z Q 44 [(3, .int (x3))] [] T M from hE)
  · replace h := ifn c1 h
    refine g_iload_n (pc := 12) C dX12_rowOf_12 rfl 3 rfl ?_
    refine g_aload_n (pc := 13) C dX12_rowOf_13 rfl 0 rfl ?_
    refine g_iload_n (pc := 14) C dX12_rowOf_14 rfl 1 rfl ?_
    refine g_bipush (pc := 15) (v := 24) C dX12_rowOf_15 (by decide) ?_
    refine g_iload_n (pc := 17) C dX12_rowOf_17 rfl 2 rfl ?_
    refine g_imul (pc := 18) C dX12_rowOf_18 ?_
    refine g_iload (pc := 19) C dX12_rowOf_19 4 rfl ?_
    refine g_iadd (pc := 21) C dX12_rowOf_21 ?_
    replace h := gd_some h; obtain ⟨hk2, h⟩ := h
    replace h := bnd2 h; obtain ⟨r3, M4, h1, h⟩ := h
    refine g_callVi (pc := 22) (As := [.int (x1), .int (((24 : Int32) * x2) + x4)]) (st := [.int (x3)]) C dX12_rowOf_22 wX12_isPassed hk2 rfl (by decide) q_1506 q_80 q_1504 (by omega) rfl (Nat.le_of_ble_eq_true rfl) (kX12_isPassed (d := 2) (Nat.le_refl _) h1) ?_
    refine g_if_eq (pc := 25) (tgt := 35) C dX12_rowOf_25 (by decide) (fun c5 => ?_) (fun c5 => ?_)
    · replace h := ifp c5 h
      refine g_iconst (pc := 35) (v := 0) C dX12_rowOf_35 (by decide) ?_
      refine g_ior (pc := 36) C dX12_rowOf_36 ?_
      refine g_topi (fun v6 ev6 => ?_)
      replace h := lt_at ev6 h
      refine g_istore_n (pc := 37) (lo2 := [(3, .int (v6)), (0, .ref (x0)), (1, .int (x1)), (2, .int (x2)), (4, .int (x4))]) C dX12_rowOf_37 rfl (by decide) rfl ?_
      obtain ⟨v7, ev7⟩ : ∃ y : Int32, y = x4 + (1 : Int32) := ⟨_, rfl⟩
      replace h := lt_at ev7 h
      refine g_iinc (pc := 38) (v := v7) (k := 4) (lo2 := [(4, .int (v7)), (3, .int (v6)), (0, .ref (x0)), (1, .int (x1)), (2, .int (x2))]) C dX12_rowOf_38 rfl (by rw [ev7]; rfl) (by decide) rfl ?_
      refine g_goto (pc := 41) (tgt := 5) C dX12_rowOf_41 (by decide) ?_
      obtain rfl := Option.some.inj h
      exact g_sub [2, 3, 4, 1, 0] rfl (show G X B 5 Z Q 5 [(0, .ref (x0)), (1, .int (x1)), (2, .int (x2)), (3, .int (v6)), (4, .int (v7))] [] T M4 from hE)
    · replace h := ifn c5 h
      refine g_iconst (pc := 28) (v := 1) C dX12_rowOf_28 (by decide) ?_
      refine g_iload (pc := 29) C dX12_rowOf_29 4 rfl ?_
      refine g_ishl (pc := 31) C dX12_rowOf_31 ?_
      refine g_goto (pc := 32) (tgt := 36) C dX12_rowOf_32 (by decide) ?_
      refine g_ior (pc := 36) C dX12_rowOf_36 ?_
      refine g_topi (fun v8 ev8 => ?_)
      replace h := lt_at ev8 h
      refine g_istore_n (pc := 37) (lo2 := [(3, .int (v8)), (0, .ref (x0)), (1, .int (x1)), (2, .int (x2)), (4, .int (x4))]) C dX12_rowOf_37 rfl (by decide) rfl ?_
      obtain ⟨v9, ev9⟩ : ∃ y : Int32, y = x4 + (1 : Int32) := ⟨_, rfl⟩
      replace h := lt_at ev9 h
      refine g_iinc (pc := 38) (v := v9) (k := 4) (lo2 := [(4, .int (v9)), (3, .int (v8)), (0, .ref (x0)), (1, .int (x1)), (2, .int (x2))]) C dX12_rowOf_38 rfl (by rw [ev9]; rfl) (by decide) rfl ?_
      refine g_goto (pc := 41) (tgt := 5) C dX12_rowOf_41 (by decide) ?_
      obtain rfl := Option.some.inj h
      exact g_sub [2, 3, 4, 1, 0] rfl (show G X B 5 Z Q 5 [(0, .ref (x0)), (1, .int (x1)), (2, .int (x2)), (3, .int (v8)), (4, .int (v9))] [] T M4 from hE)
/-- EyeTrainerModel.rowOf(II)I -/
def fX12_rowOf (T : Sh) (M : Me) (x0 : Nat) (x1 : Int32) (x2 : Int32) : Option (Int32 × Me) :=
  (lp FU (fun s => bX12_rowOf_5 T x0 x1 x2 s.1 s.2.1 s.2.2) ((0 : Int32), (0 : Int32), M)).bind (un2 fun x3_10 M11 => some (x3_10, M11))
set_option maxHeartbeats 4000000 in
theorem kX12_rowOf {l : Launch} {B : Bx} {d : Nat} (hd : 3 ≤ d) {T : Sh} {M : Me} {x0 : Nat} {x1 : Int32} {x2 : Int32} {r : Int32} {M' : Me} (h : fX12_rowOf T M x0 x1 x2 = some (r, M')) : Kt l B yX12_rowOf cX12_rowOf 5 (some .int) d [.ref (x0), .int (x1), .int (x2)] T M (some (.int r)) T M' := by
  refine kt_of wX12_rowOf (Nat.le_refl _) (Nat.le_refl _) (Nat.le_of_ble_eq_true rfl) (fun X C hR hlx hin => ?_)
  subst hlx
  replace C : Cx X B cX12_rowOf 5 RX12 d (tp T, sl T, tp T, sl T) := C
  unfold fX12_rowOf at h
  show G X B 5 _ _ 0 [(0, .ref (x0)), (1, .int (x1)), (2, .int (x2))] [] T M
  refine g_iconst (pc := 0) (v := 0) C dX12_rowOf_0 (by decide) ?_
  refine g_istore_n (pc := 1) (lo2 := [(3, .int ((0 : Int32))), (0, .ref (x0)), (1, .int (x1)), (2, .int (x2))]) C dX12_rowOf_1 rfl (by decide) rfl ?_
  refine g_iconst (pc := 2) (v := 0) C dX12_rowOf_2 (by decide) ?_
  refine g_istore (pc := 3) (lo2 := [(4, .int ((0 : Int32))), (3, .int ((0 : Int32))), (0, .ref (x0)), (1, .int (x1)), (2, .int (x2))]) C dX12_rowOf_3 (by decide) rfl ?_
  replace h := bnd2 h; obtain ⟨x3_10, M11, h1, h⟩ := h
  refine g_sub [2, 3, 4, 1, 0] rfl ?_
  refine lp_G2 (P := PX12_rowOf_5 X B _ _ T x0 x1 x2) (E := EX12_rowOf_5 X B _ _ T x0 x1 x2) (tbX12_rowOf_5 C hd) h1 ?_
  show G X B 5 _ _ 44 [(3, .int (x3_10))] [] T M11
  refine g_iload_n (pc := 44) C dX12_rowOf_44 rfl 0 rfl ?_
  obtain ⟨rfl, rfl⟩ := Prod.mk.inj (Option.some.inj h)
  exact g_iret C hR dX12_rowOf_45
theorem dX12_laysMap_0 : decode cX12_laysMap 0 = .ok (.iconst 0, 1) := by decide +kernel
theorem dX12_laysMap_1 : decode cX12_laysMap 1 = .ok (.istore_n 2, 1) := by decide +kernel
theorem dX12_laysMap_2 : decode cX12_laysMap 2 = .ok (.iload_n 2, 1) := by decide +kernel
theorem dX12_laysMap_3 : decode cX12_laysMap 3 = .ok (.bipush 16, 2) := by decide +kernel
theorem dX12_laysMap_5 : decode cX12_laysMap 5 = .ok (.if_icmp .ge 21, 3) := by decide +kernel
theorem dX12_laysMap_8 : decode cX12_laysMap 8 = .ok (.aload_n 0, 1) := by decide +kernel
theorem dX12_laysMap_9 : decode cX12_laysMap 9 = .ok (.getfield 36, 3) := by decide +kernel
theorem dX12_laysMap_12 : decode cX12_laysMap 12 = .ok (.iload_n 2, 1) := by decide +kernel
theorem dX12_laysMap_13 : decode cX12_laysMap 13 = .ok (.aload_n 0, 1) := by decide +kernel
theorem dX12_laysMap_14 : decode cX12_laysMap 14 = .ok (.iload_n 1, 1) := by decide +kernel
theorem dX12_laysMap_15 : decode cX12_laysMap 15 = .ok (.iload_n 2, 1) := by decide +kernel
theorem dX12_laysMap_16 : decode cX12_laysMap 16 = .ok (.invokevirtual 233, 3) := by decide +kernel
theorem dX12_laysMap_19 : decode cX12_laysMap 19 = .ok (.iastore, 1) := by decide +kernel
theorem dX12_laysMap_20 : decode cX12_laysMap 20 = .ok (.iinc 2 1, 3) := by decide +kernel
theorem dX12_laysMap_23 : decode cX12_laysMap 23 = .ok (.goto (-21), 3) := by decide +kernel
theorem dX12_laysMap_26 : decode cX12_laysMap 26 = .ok (.return_, 1) := by decide +kernel
theorem wX12_laysMap : Mw yX12_laysMap cX12_laysMap 3 none 1 := ⟨q_1585, q_130, by decide, ⟨by decide +kernel, by decide +kernel⟩, by decide +kernel, by decide +kernel⟩
-- a loop of EyeTrainerModel.laysMap at 2
def bX12_laysMap_2 (T : Sh) (x0 : Nat) (x1 : Int32) (x2 : Int32) (M : Me) : Option ((Int32 × Me) ⊕ (Me)) :=
  if (16 : Int32) ≤ x2 then (some (.inr M)) else (gd (kd T x0 = 11) <| Option.bind (gR M x0 20) fun a3 => Option.bind (fX12_rowOf T M x0 x1 x2) <| un2 fun r4 M5 => gd (kd T a3 = 13) <| gv x2 (ln T a3) <| lt (pI M5 a3 (Int32.toNatClampNeg x2) r4) fun M8 => lt (x2 + (1 : Int32)) fun v9 => some (.inl (v9, M8)))
def PX12_laysMap_2 (X : Fx) (B : Bx) (Z : Nat × Nat × Nat × Nat) (Q : State → Prop) (T : Sh) (x0 : Nat) (x1 : Int32) (s : Int32 × Me) : Prop := G X B 3 Z Q 2 [(0, .ref (x0)), (1, .int (x1)), (2, .int (s.1))] [] T s.2
def EX12_laysMap_2 (X : Fx) (B : Bx) (Z : Nat × Nat × Nat × Nat) (Q : State → Prop) (T : Sh) (x0 : Nat) (x1 : Int32) (r : Me) : Prop := G X B 3 Z Q 26 [] [] T r
set_option maxHeartbeats 4000000 in
theorem tbX12_laysMap_2 {X : Fx} {B : Bx} {Z : Nat × Nat × Nat × Nat} {Q : State → Prop} {d : Nat} {T : Sh} (C : Cx X B cX12_laysMap 3 RX12 d Z) (hd : 4 ≤ d) {x0 : Nat} {x1 : Int32} : ∀ (s : Int32 × Me) (o : (Int32 × Me) ⊕ (Me)), bX12_laysMap_2 T x0 x1 s.1 s.2 = some o → lpE (PX12_laysMap_2 X B Z Q T x0 x1) (EX12_laysMap_2 X B Z Q T x0 x1) o → PX12_laysMap_2 X B Z Q T x0 x1 s := by
  rintro ⟨x2, M⟩ o h hE
  replace h : bX12_laysMap_2 T x0 x1 x2 M = some o := h
  unfold bX12_laysMap_2 at h
  show G X B 3 Z Q 2 [(0, .ref (x0)), (1, .int (x1)), (2, .int (x2))] [] T M
  refine g_iload_n (pc := 2) C dX12_laysMap_2 rfl 2 rfl ?_
  refine g_bipush (pc := 3) (v := 16) C dX12_laysMap_3 (by decide) ?_
  refine g_icmp_ge (pc := 5) (tgt := 26) C dX12_laysMap_5 (by decide) (fun c1 => ?_) (fun c1 => ?_)
  · replace h := ifp c1 h
    obtain rfl := Option.some.inj h
    exact g_sub [] rfl (show G X B 3 Z Q 26 [] [] T M from hE)
  · replace h := ifn c1 h
    refine g_aload_n (pc := 8) C dX12_laysMap_8 rfl 0 rfl ?_
    replace h := gd_some h; obtain ⟨hk2, h⟩ := h
    refine g_get (pc := 9) (v := va_rf (gR M x0 20)) C dX12_laysMap_9 kX12 hk2 20 (by decide) q_1247 rfl ?_
    replace h := bnd h; obtain ⟨a3, ea3, h⟩ := h
    refine g_refq ea3 ?_
    refine g_iload_n (pc := 12) C dX12_laysMap_12 rfl 2 rfl ?_
    refine g_aload_n (pc := 13) C dX12_laysMap_13 rfl 0 rfl ?_
    refine g_iload_n (pc := 14) C dX12_laysMap_14 rfl 1 rfl ?_
    refine g_iload_n (pc := 15) C dX12_laysMap_15 rfl 2 rfl ?_
    replace h := bnd2 h; obtain ⟨r4, M5, h1, h⟩ := h
    refine g_callVi (pc := 16) (As := [.int (x1), .int (x2)]) (st := [.int (x2), .ref (a3)]) C dX12_laysMap_16 wX12_rowOf hk2 rfl (by decide) q_1540 q_82 q_1538 (by omega) rfl (Nat.le_of_ble_eq_true rfl) (kX12_rowOf (d := 3) (Nat.le_refl _) h1) ?_
    replace h := gd_some h; obtain ⟨hk6, h⟩ := h
    replace h := gv_some h; obtain ⟨hi7, h⟩ := h
    refine g_iast (pc := 19) C dX12_laysMap_19 hk6 hi7 ?_
    refine g_mem (fun M8 eM8 => ?_)
    replace h := lt_at eM8 h
    obtain ⟨v9, ev9⟩ : ∃ y : Int32, y = x2 + (1 : Int32) := ⟨_, rfl⟩
    replace h := lt_at ev9 h
    refine g_iinc (pc := 20) (v := v9) (k := 2) (lo2 := [(2, .int (v9)), (0, .ref (x0)), (1, .int (x1))]) C dX12_laysMap_20 rfl (by rw [ev9]; rfl) (by decide) rfl ?_
    refine g_goto (pc := 23) (tgt := 2) C dX12_laysMap_23 (by decide) ?_
    obtain rfl := Option.some.inj h
    exact g_sub [1, 2, 0] rfl (show G X B 3 Z Q 2 [(0, .ref (x0)), (1, .int (x1)), (2, .int (v9))] [] T M8 from hE)
/-- EyeTrainerModel.laysMap(I)V -/
def fX12_laysMap (T : Sh) (M : Me) (x0 : Nat) (x1 : Int32) : Option (Unit × Me) :=
  (lp FU (fun s => bX12_laysMap_2 T x0 x1 s.1 s.2) ((0 : Int32), M)).bind (fun M10 => some ((), M10))
set_option maxHeartbeats 4000000 in
theorem kX12_laysMap {l : Launch} {B : Bx} {d : Nat} (hd : 4 ≤ d) {T : Sh} {M : Me} {x0 : Nat} {x1 : Int32} {M' : Me} (h : fX12_laysMap T M x0 x1 = some ((), M')) : Kt l B yX12_laysMap cX12_laysMap 3 none d [.ref (x0), .int (x1)] T M none T M' := by
  refine kt_of wX12_laysMap (Nat.le_refl _) (Nat.le_refl _) (Nat.le_of_ble_eq_true rfl) (fun X C hR hlx hin => ?_)
  subst hlx
  replace C : Cx X B cX12_laysMap 3 RX12 d (tp T, sl T, tp T, sl T) := C
  unfold fX12_laysMap at h
  show G X B 3 _ _ 0 [(0, .ref (x0)), (1, .int (x1))] [] T M
  refine g_iconst (pc := 0) (v := 0) C dX12_laysMap_0 (by decide) ?_
  refine g_istore_n (pc := 1) (lo2 := [(2, .int ((0 : Int32))), (0, .ref (x0)), (1, .int (x1))]) C dX12_laysMap_1 rfl (by decide) rfl ?_
  replace h := bnd h; obtain ⟨M10, h1, h⟩ := h
  refine g_sub [1, 2, 0] rfl ?_
  refine lp_G2 (P := PX12_laysMap_2 X B _ _ T x0 x1) (E := EX12_laysMap_2 X B _ _ T x0 x1) (tbX12_laysMap_2 C hd) h1 ?_
  show G X B 3 _ _ 26 [] [] T M10
  obtain ⟨-, rfl⟩ := Prod.mk.inj (Option.some.inj h)
  exact g_vret C hR dX12_laysMap_26
theorem dX12_isMapped_0 : decode cX12_isMapped 0 = .ok (.iload_n 1, 1) := by decide +kernel
theorem dX12_isMapped_1 : decode cX12_isMapped 1 = .ok (.i2l, 1) := by decide +kernel
theorem dX12_isMapped_2 : decode cX12_isMapped 2 = .ok (.lconst 0, 1) := by decide +kernel
theorem dX12_isMapped_3 : decode cX12_isMapped 3 = .ok (.ldc2_w 236, 3) := by decide +kernel
theorem dX12_isMapped_6 : decode cX12_isMapped 6 = .ok (.invokestatic 139, 3) := by decide +kernel
theorem dX12_isMapped_9 : decode cX12_isMapped 9 = .ok (.ifCond .eq 33, 3) := by decide +kernel
theorem dX12_isMapped_12 : decode cX12_isMapped 12 = .ok (.iload_n 2, 1) := by decide +kernel
theorem dX12_isMapped_13 : decode cX12_isMapped 13 = .ok (.i2l, 1) := by decide +kernel
theorem dX12_isMapped_14 : decode cX12_isMapped 14 = .ok (.lconst 0, 1) := by decide +kernel
theorem dX12_isMapped_15 : decode cX12_isMapped 15 = .ok (.ldc2_w 238, 3) := by decide +kernel
theorem dX12_isMapped_18 : decode cX12_isMapped 18 = .ok (.invokestatic 139, 3) := by decide +kernel
theorem dX12_isMapped_21 : decode cX12_isMapped 21 = .ok (.ifCond .eq 21, 3) := by decide +kernel
theorem dX12_isMapped_24 : decode cX12_isMapped 24 = .ok (.aload_n 0, 1) := by decide +kernel
theorem dX12_isMapped_25 : decode cX12_isMapped 25 = .ok (.getfield 36, 3) := by decide +kernel
theorem dX12_isMapped_28 : decode cX12_isMapped 28 = .ok (.iload_n 2, 1) := by decide +kernel
theorem dX12_isMapped_29 : decode cX12_isMapped 29 = .ok (.iaload, 1) := by decide +kernel
theorem dX12_isMapped_30 : decode cX12_isMapped 30 = .ok (.i2l, 1) := by decide +kernel
theorem dX12_isMapped_31 : decode cX12_isMapped 31 = .ok (.iload_n 1, 1) := by decide +kernel
theorem dX12_isMapped_32 : decode cX12_isMapped 32 = .ok (.invokestatic 240, 3) := by decide +kernel
theorem dX12_isMapped_35 : decode cX12_isMapped 35 = .ok (.ifCond .eq 7, 3) := by decide +kernel
theorem dX12_isMapped_38 : decode cX12_isMapped 38 = .ok (.iconst 1, 1) := by decide +kernel
theorem dX12_isMapped_39 : decode cX12_isMapped 39 = .ok (.goto 4, 3) := by decide +kernel
theorem dX12_isMapped_42 : decode cX12_isMapped 42 = .ok (.iconst 0, 1) := by decide +kernel
theorem dX12_isMapped_43 : decode cX12_isMapped 43 = .ok (.ireturn, 1) := by decide +kernel
theorem wX12_isMapped : Mw yX12_isMapped cX12_isMapped 3 (some .boolean) 2 := ⟨q_1613, q_130, by decide, ⟨by decide +kernel, by decide +kernel⟩, by decide +kernel, by decide +kernel⟩
/-- EyeTrainerModel.isMapped(II)Z -/
def fX12_isMapped (T : Sh) (M : Me) (x0 : Nat) (x1 : Int32) (x2 : Int32) : Option (Int32) :=
  Option.bind (fX12_within (Int32.toInt64 x1) (0 : Int64) (23 : Int64)) fun r1 => if r1 = 0 then (some (0 : Int32)) else (Option.bind (fX12_within (Int32.toInt64 x2) (0 : Int64) (15 : Int64)) fun r3 => if r3 = 0 then (some (0 : Int32)) else (gd (kd T x0 = 11) <| Option.bind (gR M x0 20) fun a6 => gd (kd T a6 = 13) <| gv x2 (ln T a6) <| Option.bind (fX12_isIn (Int32.toInt64 (gI M a6 (Int32.toNatClampNeg x2))) x1) fun r9 => if r9 = 0 then (some (0 : Int32)) else (some (1 : Int32))))
set_option maxHeartbeats 4000000 in
theorem kX12_isMapped {l : Launch} {B : Bx} {d : Nat} (hd : 1 ≤ d) {T : Sh} {M : Me} {x0 : Nat} {x1 : Int32} {x2 : Int32} {r : Int32} (h : fX12_isMapped T M x0 x1 x2 = some r) : Kt l B yX12_isMapped cX12_isMapped 3 (some .boolean) d [.ref (x0), .int (x1), .int (x2)] T M (some (.int r)) T M := by
  refine kt_of wX12_isMapped (Nat.le_refl _) (Nat.le_refl _) (Nat.le_of_ble_eq_true rfl) (fun X C hR hlx hin => ?_)
  subst hlx
  replace C : Cx X B cX12_isMapped 3 RX12 d (tp T, sl T, tp T, sl T) := C
  unfold fX12_isMapped at h
  show G X B 3 _ _ 0 [(0, .ref (x0)), (1, .int (x1)), (2, .int (x2))] [] T M
  refine g_iload_n (pc := 0) C dX12_isMapped_0 rfl 1 rfl ?_
  refine g_i2l (pc := 1) C dX12_isMapped_1 ?_
  refine g_lconst (pc := 2) (v := 0) C dX12_isMapped_2 rfl ?_
  refine g_ldc2 (pc := 3) C dX12_isMapped_3 q_1614 ?_
  replace h := bnd h; obtain ⟨r1, h1, h⟩ := h
  refine g_callSi (pc := 6) (As := [.long (Int32.toInt64 x1), .long ((0 : Int64)), .long ((23 : Int64))]) (st := []) C dX12_isMapped_6 wX12_within q_1367 q_1366 (by omega) rfl (Nat.le_of_ble_eq_true rfl) (kX12_within (d := 0) (Nat.le_refl _) h1) ?_
  refine g_if_eq (pc := 9) (tgt := 42) C dX12_isMapped_9 (by decide) (fun c2 => ?_) (fun c2 => ?_)
  · replace h := ifp c2 h
    refine g_iconst (pc := 42) (v := 0) C dX12_isMapped_42 (by decide) ?_
    obtain rfl := Option.some.inj h
    exact g_zret C hR dX12_isMapped_43 rfl
  · replace h := ifn c2 h
    refine g_iload_n (pc := 12) C dX12_isMapped_12 rfl 2 rfl ?_
    refine g_i2l (pc := 13) C dX12_isMapped_13 ?_
    refine g_lconst (pc := 14) (v := 0) C dX12_isMapped_14 rfl ?_
    refine g_ldc2 (pc := 15) C dX12_isMapped_15 q_1537 ?_
    replace h := bnd h; obtain ⟨r3, h1, h⟩ := h
    refine g_callSi (pc := 18) (As := [.long (Int32.toInt64 x2), .long ((0 : Int64)), .long ((15 : Int64))]) (st := []) C dX12_isMapped_18 wX12_within q_1367 q_1366 (by omega) rfl (Nat.le_of_ble_eq_true rfl) (kX12_within (d := 0) (Nat.le_refl _) h1) ?_
    refine g_if_eq (pc := 21) (tgt := 42) C dX12_isMapped_21 (by decide) (fun c4 => ?_) (fun c4 => ?_)
    · replace h := ifp c4 h
      refine g_iconst (pc := 42) (v := 0) C dX12_isMapped_42 (by decide) ?_
      obtain rfl := Option.some.inj h
      exact g_zret C hR dX12_isMapped_43 rfl
    · replace h := ifn c4 h
      refine g_aload_n (pc := 24) C dX12_isMapped_24 rfl 0 rfl ?_
      replace h := gd_some h; obtain ⟨hk5, h⟩ := h
      refine g_get (pc := 25) (v := va_rf (gR M x0 20)) C dX12_isMapped_25 kX12 hk5 20 (by decide) q_1247 rfl ?_
      replace h := bnd h; obtain ⟨a6, ea6, h⟩ := h
      refine g_refq ea6 ?_
      refine g_iload_n (pc := 28) C dX12_isMapped_28 rfl 2 rfl ?_
      replace h := gd_some h; obtain ⟨hk7, h⟩ := h
      replace h := gv_some h; obtain ⟨hi8, h⟩ := h
      refine g_iald (pc := 29) C dX12_isMapped_29 hk7 hi8 ?_
      refine g_i2l (pc := 30) C dX12_isMapped_30 ?_
      refine g_iload_n (pc := 31) C dX12_isMapped_31 rfl 1 rfl ?_
      replace h := bnd h; obtain ⟨r9, h1, h⟩ := h
      refine g_callSi (pc := 32) (As := [.long (Int32.toInt64 (gI M a6 (Int32.toNatClampNeg x2))), .int (x1)]) (st := []) C dX12_isMapped_32 wX12_isIn q_1580 q_1579 (by omega) rfl (Nat.le_of_ble_eq_true rfl) (kX12_isIn (d := 0) (Nat.le_refl _) h1) ?_
      refine g_if_eq (pc := 35) (tgt := 42) C dX12_isMapped_35 (by decide) (fun c10 => ?_) (fun c10 => ?_)
      · replace h := ifp c10 h
        refine g_iconst (pc := 42) (v := 0) C dX12_isMapped_42 (by decide) ?_
        obtain rfl := Option.some.inj h
        exact g_zret C hR dX12_isMapped_43 rfl
      · replace h := ifn c10 h
        refine g_iconst (pc := 38) (v := 1) C dX12_isMapped_38 (by decide) ?_
        refine g_goto (pc := 39) (tgt := 43) C dX12_isMapped_39 (by decide) ?_
        obtain rfl := Option.some.inj h
        exact g_zret C hR dX12_isMapped_43 rfl
theorem dX12_areaNow_0 : decode cX12_areaNow 0 = .ok (.iconst 0, 1) := by decide +kernel
theorem dX12_areaNow_1 : decode cX12_areaNow 1 = .ok (.istore_n 1, 1) := by decide +kernel
theorem dX12_areaNow_2 : decode cX12_areaNow 2 = .ok (.iconst 0, 1) := by decide +kernel
theorem dX12_areaNow_3 : decode cX12_areaNow 3 = .ok (.istore_n 2, 1) := by decide +kernel
theorem dX12_areaNow_4 : decode cX12_areaNow 4 = .ok (.iload_n 2, 1) := by decide +kernel
theorem dX12_areaNow_5 : decode cX12_areaNow 5 = .ok (.bipush 16, 2) := by decide +kernel
theorem dX12_areaNow_7 : decode cX12_areaNow 7 = .ok (.if_icmp .ge 21, 3) := by decide +kernel
theorem dX12_areaNow_10 : decode cX12_areaNow 10 = .ok (.iload_n 1, 1) := by decide +kernel
theorem dX12_areaNow_11 : decode cX12_areaNow 11 = .ok (.aload_n 0, 1) := by decide +kernel
theorem dX12_areaNow_12 : decode cX12_areaNow 12 = .ok (.getfield 36, 3) := by decide +kernel
theorem dX12_areaNow_15 : decode cX12_areaNow 15 = .ok (.iload_n 2, 1) := by decide +kernel
theorem dX12_areaNow_16 : decode cX12_areaNow 16 = .ok (.iaload, 1) := by decide +kernel
theorem dX12_areaNow_17 : decode cX12_areaNow 17 = .ok (.invokestatic 244, 3) := by decide +kernel
theorem dX12_areaNow_20 : decode cX12_areaNow 20 = .ok (.iadd, 1) := by decide +kernel
theorem dX12_areaNow_21 : decode cX12_areaNow 21 = .ok (.istore_n 1, 1) := by decide +kernel
theorem dX12_areaNow_22 : decode cX12_areaNow 22 = .ok (.iinc 2 1, 3) := by decide +kernel
theorem dX12_areaNow_25 : decode cX12_areaNow 25 = .ok (.goto (-21), 3) := by decide +kernel
theorem dX12_areaNow_28 : decode cX12_areaNow 28 = .ok (.iload_n 1, 1) := by decide +kernel
theorem dX12_areaNow_29 : decode cX12_areaNow 29 = .ok (.ireturn, 1) := by decide +kernel
theorem wX12_areaNow : Mw yX12_areaNow cX12_areaNow 3 (some .int) 0 := ⟨q_1589, q_130, by decide, ⟨by decide +kernel, by decide +kernel⟩, by decide +kernel, by decide +kernel⟩
-- a loop of EyeTrainerModel.areaNow at 4
def bX12_areaNow_4 (T : Sh) (M : Me) (x0 : Nat) (x1 : Int32) (x2 : Int32) : Option ((Int32 × Int32) ⊕ (Int32)) :=
  if (16 : Int32) ≤ x2 then (some (.inr x1)) else (gd (kd T x0 = 11) <| Option.bind (gR M x0 20) fun a3 => gd (kd T a3 = 13) <| gv x2 (ln T a3) <| Option.bind (fX12_bitsOf (gI M a3 (Int32.toNatClampNeg x2))) fun r6 => lt (x1 + r6) fun v7 => lt (x2 + (1 : Int32)) fun v8 => some (.inl (v7, v8)))
def PX12_areaNow_4 (X : Fx) (B : Bx) (Z : Nat × Nat × Nat × Nat) (Q : State → Prop) (T : Sh) (M : Me) (x0 : Nat) (s : Int32 × Int32) : Prop := G X B 3 Z Q 4 [(0, .ref (x0)), (1, .int (s.1)), (2, .int (s.2))] [] T M
def EX12_areaNow_4 (X : Fx) (B : Bx) (Z : Nat × Nat × Nat × Nat) (Q : State → Prop) (T : Sh) (M : Me) (x0 : Nat) (r : Int32) : Prop := G X B 3 Z Q 28 [(1, .int (r))] [] T M
set_option maxHeartbeats 4000000 in
theorem tbX12_areaNow_4 {X : Fx} {B : Bx} {Z : Nat × Nat × Nat × Nat} {Q : State → Prop} {d : Nat} {T : Sh} {M : Me} (C : Cx X B cX12_areaNow 3 RX12 d Z) (hd : 1 ≤ d) {x0 : Nat} : ∀ (s : Int32 × Int32) (o : (Int32 × Int32) ⊕ (Int32)), bX12_areaNow_4 T M x0 s.1 s.2 = some o → lpE (PX12_areaNow_4 X B Z Q T M x0) (EX12_areaNow_4 X B Z Q T M x0) o → PX12_areaNow_4 X B Z Q T M x0 s := by
  rintro ⟨x1, x2⟩ o h hE
  replace h : bX12_areaNow_4 T M x0 x1 x2 = some o := h
  unfold bX12_areaNow_4 at h
  show G X B 3 Z Q 4 [(0, .ref (x0)), (1, .int (x1)), (2, .int (x2))] [] T M
  refine g_iload_n (pc := 4) C dX12_areaNow_4 rfl 2 rfl ?_
  refine g_bipush (pc := 5) (v := 16) C dX12_areaNow_5 (by decide) ?_
  refine g_icmp_ge (pc := 7) (tgt := 28) C dX12_areaNow_7 (by decide) (fun c1 => ?_) (fun c1 => ?_)
  · replace h := ifp c1 h
    obtain rfl := Option.some.inj h
    exact g_sub [1] rfl (show G X B 3 Z Q 28 [(1, .int (x1))] [] T M from hE)
  · replace h := ifn c1 h
    refine g_iload_n (pc := 10) C dX12_areaNow_10 rfl 1 rfl ?_
    refine g_aload_n (pc := 11) C dX12_areaNow_11 rfl 0 rfl ?_
    replace h := gd_some h; obtain ⟨hk2, h⟩ := h
    refine g_get (pc := 12) (v := va_rf (gR M x0 20)) C dX12_areaNow_12 kX12 hk2 20 (by decide) q_1247 rfl ?_
    replace h := bnd h; obtain ⟨a3, ea3, h⟩ := h
    refine g_refq ea3 ?_
    refine g_iload_n (pc := 15) C dX12_areaNow_15 rfl 2 rfl ?_
    replace h := gd_some h; obtain ⟨hk4, h⟩ := h
    replace h := gv_some h; obtain ⟨hi5, h⟩ := h
    refine g_iald (pc := 16) C dX12_areaNow_16 hk4 hi5 ?_
    replace h := bnd h; obtain ⟨r6, h1, h⟩ := h
    refine g_callSi (pc := 17) (As := [.int (gI M a3 (Int32.toNatClampNeg x2))]) (st := [.int (x1)]) C dX12_areaNow_17 wX12_bitsOf q_1591 q_1590 (by omega) rfl (Nat.le_of_ble_eq_true rfl) (kX12_bitsOf (d := 0) (Nat.le_refl _) h1) ?_
    refine g_iadd (pc := 20) C dX12_areaNow_20 ?_
    refine g_topi (fun v7 ev7 => ?_)
    replace h := lt_at ev7 h
    refine g_istore_n (pc := 21) (lo2 := [(1, .int (v7)), (0, .ref (x0)), (2, .int (x2))]) C dX12_areaNow_21 rfl (by decide) rfl ?_
    obtain ⟨v8, ev8⟩ : ∃ y : Int32, y = x2 + (1 : Int32) := ⟨_, rfl⟩
    replace h := lt_at ev8 h
    refine g_iinc (pc := 22) (v := v8) (k := 2) (lo2 := [(2, .int (v8)), (1, .int (v7)), (0, .ref (x0))]) C dX12_areaNow_22 rfl (by rw [ev8]; rfl) (by decide) rfl ?_
    refine g_goto (pc := 25) (tgt := 4) C dX12_areaNow_25 (by decide) ?_
    obtain rfl := Option.some.inj h
    exact g_sub [2, 1, 0] rfl (show G X B 3 Z Q 4 [(0, .ref (x0)), (1, .int (v7)), (2, .int (v8))] [] T M from hE)
/-- EyeTrainerModel.areaNow()I -/
def fX12_areaNow (T : Sh) (M : Me) (x0 : Nat) : Option (Int32) :=
  (lp FU (fun s => bX12_areaNow_4 T M x0 s.1 s.2) ((0 : Int32), (0 : Int32))).bind (fun x1_9 => some x1_9)
set_option maxHeartbeats 4000000 in
theorem kX12_areaNow {l : Launch} {B : Bx} {d : Nat} (hd : 1 ≤ d) {T : Sh} {M : Me} {x0 : Nat} {r : Int32} (h : fX12_areaNow T M x0 = some r) : Kt l B yX12_areaNow cX12_areaNow 3 (some .int) d [.ref (x0)] T M (some (.int r)) T M := by
  refine kt_of wX12_areaNow (Nat.le_refl _) (Nat.le_refl _) (Nat.le_of_ble_eq_true rfl) (fun X C hR hlx hin => ?_)
  subst hlx
  replace C : Cx X B cX12_areaNow 3 RX12 d (tp T, sl T, tp T, sl T) := C
  unfold fX12_areaNow at h
  show G X B 3 _ _ 0 [(0, .ref (x0))] [] T M
  refine g_iconst (pc := 0) (v := 0) C dX12_areaNow_0 (by decide) ?_
  refine g_istore_n (pc := 1) (lo2 := [(1, .int ((0 : Int32))), (0, .ref (x0))]) C dX12_areaNow_1 rfl (by decide) rfl ?_
  refine g_iconst (pc := 2) (v := 0) C dX12_areaNow_2 (by decide) ?_
  refine g_istore_n (pc := 3) (lo2 := [(2, .int ((0 : Int32))), (1, .int ((0 : Int32))), (0, .ref (x0))]) C dX12_areaNow_3 rfl (by decide) rfl ?_
  replace h := bnd h; obtain ⟨x1_9, h1, h⟩ := h
  refine g_sub [2, 1, 0] rfl ?_
  refine lp_G2 (P := PX12_areaNow_4 X B _ _ T M x0) (E := EX12_areaNow_4 X B _ _ T M x0) (tbX12_areaNow_4 C hd) h1 ?_
  show G X B 3 _ _ 28 [(1, .int (x1_9))] [] T M
  refine g_iload_n (pc := 28) C dX12_areaNow_28 rfl 0 rfl ?_
  obtain rfl := Option.some.inj h
  exact g_iret C hR dX12_areaNow_29
theorem dX12_isAtPoint_0 : decode cX12_isAtPoint 0 = .ok (.aload_n 0, 1) := by decide +kernel
theorem dX12_isAtPoint_1 : decode cX12_isAtPoint 1 = .ok (.iload_n 1, 1) := by decide +kernel
theorem dX12_isAtPoint_2 : decode cX12_isAtPoint 2 = .ok (.aload_n 0, 1) := by decide +kernel
theorem dX12_isAtPoint_3 : decode cX12_isAtPoint 3 = .ok (.getfield 13, 3) := by decide +kernel
theorem dX12_isAtPoint_6 : decode cX12_isAtPoint 6 = .ok (.bipush 42, 2) := by decide +kernel
theorem dX12_isAtPoint_8 : decode cX12_isAtPoint 8 = .ok (.iload_n 1, 1) := by decide +kernel
theorem dX12_isAtPoint_9 : decode cX12_isAtPoint 9 = .ok (.iadd, 1) := by decide +kernel
theorem dX12_isAtPoint_10 : decode cX12_isAtPoint 10 = .ok (.iaload, 1) := by decide +kernel
theorem dX12_isAtPoint_11 : decode cX12_isAtPoint 11 = .ok (.invokevirtual 229, 3) := by decide +kernel
theorem dX12_isAtPoint_14 : decode cX12_isAtPoint 14 = .ok (.ireturn, 1) := by decide +kernel
theorem wX12_isAtPoint : Mw yX12_isAtPoint cX12_isAtPoint 2 (some .boolean) 1 := ⟨q_1503, q_130, by decide, ⟨by decide +kernel, by decide +kernel⟩, by decide +kernel, by decide +kernel⟩
/-- EyeTrainerModel.isAtPoint(I)Z -/
def fX12_isAtPoint (T : Sh) (M : Me) (x0 : Nat) (x1 : Int32) : Option (Int32 × Me) :=
  gd (kd T x0 = 11) <| Option.bind (gR M x0 1) fun a2 => gd (kd T a2 = 13) <| gv ((42 : Int32) + x1) (ln T a2) <| Option.bind (fX12_isPassed T M x0 x1 (gI M a2 (Int32.toNatClampNeg ((42 : Int32) + x1)))) <| un2 fun r5 M6 => gd (r5 = 0 ∨ r5 = 1) <| some (r5, M6)
set_option maxHeartbeats 4000000 in
theorem kX12_isAtPoint {l : Launch} {B : Bx} {d : Nat} (hd : 3 ≤ d) {T : Sh} {M : Me} {x0 : Nat} {x1 : Int32} {r : Int32} {M' : Me} (h : fX12_isAtPoint T M x0 x1 = some (r, M')) : Kt l B yX12_isAtPoint cX12_isAtPoint 2 (some .boolean) d [.ref (x0), .int (x1)] T M (some (.int r)) T M' := by
  refine kt_of wX12_isAtPoint (Nat.le_refl _) (Nat.le_refl _) (Nat.le_of_ble_eq_true rfl) (fun X C hR hlx hin => ?_)
  subst hlx
  replace C : Cx X B cX12_isAtPoint 2 RX12 d (tp T, sl T, tp T, sl T) := C
  unfold fX12_isAtPoint at h
  show G X B 2 _ _ 0 [(0, .ref (x0)), (1, .int (x1))] [] T M
  refine g_aload_n (pc := 0) C dX12_isAtPoint_0 rfl 0 rfl ?_
  refine g_iload_n (pc := 1) C dX12_isAtPoint_1 rfl 1 rfl ?_
  refine g_aload_n (pc := 2) C dX12_isAtPoint_2 rfl 0 rfl ?_
  replace h := gd_some h; obtain ⟨hk1, h⟩ := h
  refine g_get (pc := 3) (v := va_rf (gR M x0 1)) C dX12_isAtPoint_3 kX12 hk1 1 (by decide) q_1228 rfl ?_
  replace h := bnd h; obtain ⟨a2, ea2, h⟩ := h
  refine g_refq ea2 ?_
  refine g_bipush (pc := 6) (v := 42) C dX12_isAtPoint_6 (by decide) ?_
  refine g_iload_n (pc := 8) C dX12_isAtPoint_8 rfl 1 rfl ?_
  refine g_iadd (pc := 9) C dX12_isAtPoint_9 ?_
  replace h := gd_some h; obtain ⟨hk3, h⟩ := h
  replace h := gv_some h; obtain ⟨hi4, h⟩ := h
  refine g_iald (pc := 10) C dX12_isAtPoint_10 hk3 hi4 ?_
  replace h := bnd2 h; obtain ⟨r5, M6, h1, h⟩ := h
  refine g_callVi (pc := 11) (As := [.int (x1), .int (gI M a2 (Int32.toNatClampNeg ((42 : Int32) + x1)))]) (st := []) C dX12_isAtPoint_11 wX12_isPassed hk1 rfl (by decide) q_1506 q_80 q_1504 (by omega) rfl (Nat.le_of_ble_eq_true rfl) (kX12_isPassed (d := 2) (Nat.le_refl _) h1) ?_
  replace h := gd_some h; obtain ⟨hb7, h⟩ := h
  obtain ⟨rfl, rfl⟩ := Prod.mk.inj (Option.some.inj h)
  exact g_zret C hR dX12_isAtPoint_14 (bz_nar hb7)
theorem dX12_lane_0 : decode cX12_lane 0 = .ok (.aload_n 0, 1) := by decide +kernel
theorem dX12_lane_1 : decode cX12_lane 1 = .ok (.iconst 0, 1) := by decide +kernel
theorem dX12_lane_2 : decode cX12_lane 2 = .ok (.putfield 1, 3) := by decide +kernel
theorem dX12_lane_5 : decode cX12_lane 5 = .ok (.aload_n 0, 1) := by decide +kernel
theorem dX12_lane_6 : decode cX12_lane 6 = .ok (.iload_n 1, 1) := by decide +kernel
theorem dX12_lane_7 : decode cX12_lane 7 = .ok (.i2l, 1) := by decide +kernel
theorem dX12_lane_8 : decode cX12_lane 8 = .ok (.invokevirtual 247, 3) := by decide +kernel
theorem dX12_lane_11 : decode cX12_lane 11 = .ok (.ifCond .ne 6, 3) := by decide +kernel
theorem dX12_lane_14 : decode cX12_lane 14 = .ok (.bipush (-2), 2) := by decide +kernel
theorem dX12_lane_16 : decode cX12_lane 16 = .ok (.ireturn, 1) := by decide +kernel
theorem dX12_lane_17 : decode cX12_lane 17 = .ok (.iload_n 2, 1) := by decide +kernel
theorem dX12_lane_18 : decode cX12_lane 18 = .ok (.tableswitch 106 0 5 #[38, 48, 58, 68, 78, 88], 38) := by decide +kernel
theorem dX12_lane_56 : decode cX12_lane 56 = .ok (.aload_n 0, 1) := by decide +kernel
theorem dX12_lane_57 : decode cX12_lane 57 = .ok (.getfield 13, 3) := by decide +kernel
theorem dX12_lane_60 : decode cX12_lane 60 = .ok (.bipush 14, 2) := by decide +kernel
theorem dX12_lane_62 : decode cX12_lane 62 = .ok (.iload_n 1, 1) := by decide +kernel
theorem dX12_lane_63 : decode cX12_lane 63 = .ok (.iadd, 1) := by decide +kernel
theorem dX12_lane_64 : decode cX12_lane 64 = .ok (.iaload, 1) := by decide +kernel
theorem dX12_lane_65 : decode cX12_lane 65 = .ok (.ireturn, 1) := by decide +kernel
theorem dX12_lane_66 : decode cX12_lane 66 = .ok (.aload_n 0, 1) := by decide +kernel
theorem dX12_lane_67 : decode cX12_lane 67 = .ok (.getfield 13, 3) := by decide +kernel
theorem dX12_lane_70 : decode cX12_lane 70 = .ok (.bipush 20, 2) := by decide +kernel
theorem dX12_lane_72 : decode cX12_lane 72 = .ok (.iload_n 1, 1) := by decide +kernel
theorem dX12_lane_73 : decode cX12_lane 73 = .ok (.iadd, 1) := by decide +kernel
theorem dX12_lane_74 : decode cX12_lane 74 = .ok (.iaload, 1) := by decide +kernel
theorem dX12_lane_75 : decode cX12_lane 75 = .ok (.ireturn, 1) := by decide +kernel
theorem dX12_lane_76 : decode cX12_lane 76 = .ok (.aload_n 0, 1) := by decide +kernel
theorem dX12_lane_77 : decode cX12_lane 77 = .ok (.getfield 13, 3) := by decide +kernel
theorem dX12_lane_80 : decode cX12_lane 80 = .ok (.bipush 26, 2) := by decide +kernel
theorem dX12_lane_82 : decode cX12_lane 82 = .ok (.iload_n 1, 1) := by decide +kernel
theorem dX12_lane_83 : decode cX12_lane 83 = .ok (.iadd, 1) := by decide +kernel
theorem dX12_lane_84 : decode cX12_lane 84 = .ok (.iaload, 1) := by decide +kernel
theorem dX12_lane_85 : decode cX12_lane 85 = .ok (.ireturn, 1) := by decide +kernel
theorem dX12_lane_86 : decode cX12_lane 86 = .ok (.aload_n 0, 1) := by decide +kernel
theorem dX12_lane_87 : decode cX12_lane 87 = .ok (.getfield 13, 3) := by decide +kernel
theorem dX12_lane_90 : decode cX12_lane 90 = .ok (.bipush 32, 2) := by decide +kernel
theorem dX12_lane_92 : decode cX12_lane 92 = .ok (.iload_n 1, 1) := by decide +kernel
theorem dX12_lane_93 : decode cX12_lane 93 = .ok (.iadd, 1) := by decide +kernel
theorem dX12_lane_94 : decode cX12_lane 94 = .ok (.iaload, 1) := by decide +kernel
theorem dX12_lane_95 : decode cX12_lane 95 = .ok (.ireturn, 1) := by decide +kernel
theorem dX12_lane_96 : decode cX12_lane 96 = .ok (.aload_n 0, 1) := by decide +kernel
theorem dX12_lane_97 : decode cX12_lane 97 = .ok (.getfield 13, 3) := by decide +kernel
theorem dX12_lane_100 : decode cX12_lane 100 = .ok (.bipush 42, 2) := by decide +kernel
theorem dX12_lane_102 : decode cX12_lane 102 = .ok (.iload_n 1, 1) := by decide +kernel
theorem dX12_lane_103 : decode cX12_lane 103 = .ok (.iadd, 1) := by decide +kernel
theorem dX12_lane_104 : decode cX12_lane 104 = .ok (.iaload, 1) := by decide +kernel
theorem dX12_lane_105 : decode cX12_lane 105 = .ok (.ireturn, 1) := by decide +kernel
theorem dX12_lane_106 : decode cX12_lane 106 = .ok (.aload_n 0, 1) := by decide +kernel
theorem dX12_lane_107 : decode cX12_lane 107 = .ok (.invokevirtual 251, 3) := by decide +kernel
theorem dX12_lane_110 : decode cX12_lane 110 = .ok (.aload_n 0, 1) := by decide +kernel
theorem dX12_lane_111 : decode cX12_lane 111 = .ok (.iload_n 1, 1) := by decide +kernel
theorem dX12_lane_112 : decode cX12_lane 112 = .ok (.invokevirtual 254, 3) := by decide +kernel
theorem dX12_lane_115 : decode cX12_lane 115 = .ok (.ifCond .eq 7, 3) := by decide +kernel
theorem dX12_lane_118 : decode cX12_lane 118 = .ok (.iconst 1, 1) := by decide +kernel
theorem dX12_lane_119 : decode cX12_lane 119 = .ok (.goto 4, 3) := by decide +kernel
theorem dX12_lane_122 : decode cX12_lane 122 = .ok (.iconst 0, 1) := by decide +kernel
theorem dX12_lane_123 : decode cX12_lane 123 = .ok (.ireturn, 1) := by decide +kernel
theorem dX12_lane_124 : decode cX12_lane 124 = .ok (.bipush (-2), 2) := by decide +kernel
theorem dX12_lane_126 : decode cX12_lane 126 = .ok (.ireturn, 1) := by decide +kernel
theorem wX12_lane : Mw yX12_lane cX12_lane 3 (some .int) 2 := ⟨q_1478, q_130, by decide, ⟨by decide +kernel, by decide +kernel⟩, by decide +kernel, by decide +kernel⟩
/-- EyeTrainerModel.lane(II)I -/
def fX12_lane (T : Sh) (M : Me) (x0 : Nat) (x1 : Int32) (x2 : Int32) : Option (Int32 × Me) :=
  gd (kd T x0 = 11) <| lt (pI M x0 0 (0 : Int32)) fun M2 => Option.bind (fX12_isLane T M2 x0 (Int32.toInt64 x1)) fun r3 => if r3 = 0 then (some ((-2 : Int32), M2)) else (if x2 = (0 : Int32) then (Option.bind (gR M2 x0 1) fun a5 => gd (kd T a5 = 13) <| gv ((14 : Int32) + x1) (ln T a5) <| some ((gI M2 a5 (Int32.toNatClampNeg ((14 : Int32) + x1))), M2)) else (if x2 = (1 : Int32) then (Option.bind (gR M2 x0 1) fun a8 => gd (kd T a8 = 13) <| gv ((20 : Int32) + x1) (ln T a8) <| some ((gI M2 a8 (Int32.toNatClampNeg ((20 : Int32) + x1))), M2)) else (if x2 = (2 : Int32) then (Option.bind (gR M2 x0 1) fun a11 => gd (kd T a11 = 13) <| gv ((26 : Int32) + x1) (ln T a11) <| some ((gI M2 a11 (Int32.toNatClampNeg ((26 : Int32) + x1))), M2)) else (if x2 = (3 : Int32) then (Option.bind (gR M2 x0 1) fun a14 => gd (kd T a14 = 13) <| gv ((32 : Int32) + x1) (ln T a14) <| some ((gI M2 a14 (Int32.toNatClampNeg ((32 : Int32) + x1))), M2)) else (if x2 = (4 : Int32) then (Option.bind (gR M2 x0 1) fun a17 => gd (kd T a17 = 13) <| gv ((42 : Int32) + x1) (ln T a17) <| some ((gI M2 a17 (Int32.toNatClampNeg ((42 : Int32) + x1))), M2)) else (if x2 = (5 : Int32) then (Option.bind (fX12_laysNow T M2 x0) <| un2 fun _u M20 => Option.bind (fX12_isAtPoint T M20 x0 x1) <| un2 fun r21 M22 => if r21 = 0 then (some ((0 : Int32), M22)) else (some ((1 : Int32), M22))) else (some ((-2 : Int32), M2))))))))
set_option maxHeartbeats 4000000 in
theorem kX12_lane {l : Launch} {B : Bx} {d : Nat} (hd : 4 ≤ d) {T : Sh} {M : Me} {x0 : Nat} {x1 : Int32} {x2 : Int32} {r : Int32} {M' : Me} (h : fX12_lane T M x0 x1 x2 = some (r, M')) : Kt l B yX12_lane cX12_lane 3 (some .int) d [.ref (x0), .int (x1), .int (x2)] T M (some (.int r)) T M' := by
  refine kt_of wX12_lane (Nat.le_refl _) (Nat.le_refl _) (Nat.le_of_ble_eq_true rfl) (fun X C hR hlx hin => ?_)
  subst hlx
  replace C : Cx X B cX12_lane 3 RX12 d (tp T, sl T, tp T, sl T) := C
  unfold fX12_lane at h
  show G X B 3 _ _ 0 [(0, .ref (x0)), (1, .int (x1)), (2, .int (x2))] [] T M
  refine g_aload_n (pc := 0) C dX12_lane_0 rfl 0 rfl ?_
  refine g_iconst (pc := 1) (v := 0) C dX12_lane_1 (by decide) ?_
  replace h := gd_some h; obtain ⟨hk1, h⟩ := h
  refine g_putI (pc := 2) C dX12_lane_2 kX12 hk1 0 (by decide) rfl rfl rfl q_1227 ?_
  refine g_mem (fun M2 eM2 => ?_)
  replace h := lt_at eM2 h
  refine g_aload_n (pc := 5) C dX12_lane_5 rfl 0 rfl ?_
  refine g_iload_n (pc := 6) C dX12_lane_6 rfl 1 rfl ?_
  refine g_i2l (pc := 7) C dX12_lane_7 ?_
  replace h := bnd h; obtain ⟨r3, h1, h⟩ := h
  refine g_callVi (pc := 8) (As := [.long (Int32.toInt64 x1)]) (st := []) C dX12_lane_8 wX12_isLane hk1 rfl (by decide) q_1481 q_75 q_1479 (by omega) rfl (Nat.le_of_ble_eq_true rfl) (kX12_isLane (d := 1) (Nat.le_refl _) h1) ?_
  refine g_if_ne (pc := 11) (tgt := 17) C dX12_lane_11 (by decide) (fun c4 => ?_) (fun c4 => ?_)
  · replace h := ifn c4 h
    refine g_iload_n (pc := 17) C dX12_lane_17 rfl 2 rfl ?_
    by_cases cw24_0 : x2 = (0 : Int32)
    · replace h := ifp cw24_0 h
      have hq : x2.toInt = 0 := by rw [cw24_0]; rfl
      refine g_tswIn (off := 38) (tgt := 56) C dX12_lane_18 (by rw [hq]; decide) (by rw [hq]; decide) (by rw [hq]; rfl) (by decide) ?_
      refine g_aload_n (pc := 56) C dX12_lane_56 rfl 0 rfl ?_
      refine g_get (pc := 57) (v := va_rf (gR M2 x0 1)) C dX12_lane_57 kX12 hk1 1 (by decide) q_1228 rfl ?_
      replace h := bnd h; obtain ⟨a5, ea5, h⟩ := h
      refine g_refq ea5 ?_
      refine g_bipush (pc := 60) (v := 14) C dX12_lane_60 (by decide) ?_
      refine g_iload_n (pc := 62) C dX12_lane_62 rfl 1 rfl ?_
      refine g_iadd (pc := 63) C dX12_lane_63 ?_
      replace h := gd_some h; obtain ⟨hk6, h⟩ := h
      replace h := gv_some h; obtain ⟨hi7, h⟩ := h
      refine g_iald (pc := 64) C dX12_lane_64 hk6 hi7 ?_
      obtain ⟨rfl, rfl⟩ := Prod.mk.inj (Option.some.inj h)
      exact g_iret C hR dX12_lane_65
    · replace h := ifn cw24_0 h
      by_cases cw24_1 : x2 = (1 : Int32)
      · replace h := ifp cw24_1 h
        have hq : x2.toInt = 1 := by rw [cw24_1]; rfl
        refine g_tswIn (off := 48) (tgt := 66) C dX12_lane_18 (by rw [hq]; decide) (by rw [hq]; decide) (by rw [hq]; rfl) (by decide) ?_
        refine g_aload_n (pc := 66) C dX12_lane_66 rfl 0 rfl ?_
        refine g_get (pc := 67) (v := va_rf (gR M2 x0 1)) C dX12_lane_67 kX12 hk1 1 (by decide) q_1228 rfl ?_
        replace h := bnd h; obtain ⟨a8, ea8, h⟩ := h
        refine g_refq ea8 ?_
        refine g_bipush (pc := 70) (v := 20) C dX12_lane_70 (by decide) ?_
        refine g_iload_n (pc := 72) C dX12_lane_72 rfl 1 rfl ?_
        refine g_iadd (pc := 73) C dX12_lane_73 ?_
        replace h := gd_some h; obtain ⟨hk9, h⟩ := h
        replace h := gv_some h; obtain ⟨hi10, h⟩ := h
        refine g_iald (pc := 74) C dX12_lane_74 hk9 hi10 ?_
        obtain ⟨rfl, rfl⟩ := Prod.mk.inj (Option.some.inj h)
        exact g_iret C hR dX12_lane_75
      · replace h := ifn cw24_1 h
        by_cases cw24_2 : x2 = (2 : Int32)
        · replace h := ifp cw24_2 h
          have hq : x2.toInt = 2 := by rw [cw24_2]; rfl
          refine g_tswIn (off := 58) (tgt := 76) C dX12_lane_18 (by rw [hq]; decide) (by rw [hq]; decide) (by rw [hq]; rfl) (by decide) ?_
          refine g_aload_n (pc := 76) C dX12_lane_76 rfl 0 rfl ?_
          refine g_get (pc := 77) (v := va_rf (gR M2 x0 1)) C dX12_lane_77 kX12 hk1 1 (by decide) q_1228 rfl ?_
          replace h := bnd h; obtain ⟨a11, ea11, h⟩ := h
          refine g_refq ea11 ?_
          refine g_bipush (pc := 80) (v := 26) C dX12_lane_80 (by decide) ?_
          refine g_iload_n (pc := 82) C dX12_lane_82 rfl 1 rfl ?_
          refine g_iadd (pc := 83) C dX12_lane_83 ?_
          replace h := gd_some h; obtain ⟨hk12, h⟩ := h
          replace h := gv_some h; obtain ⟨hi13, h⟩ := h
          refine g_iald (pc := 84) C dX12_lane_84 hk12 hi13 ?_
          obtain ⟨rfl, rfl⟩ := Prod.mk.inj (Option.some.inj h)
          exact g_iret C hR dX12_lane_85
        · replace h := ifn cw24_2 h
          by_cases cw24_3 : x2 = (3 : Int32)
          · replace h := ifp cw24_3 h
            have hq : x2.toInt = 3 := by rw [cw24_3]; rfl
            refine g_tswIn (off := 68) (tgt := 86) C dX12_lane_18 (by rw [hq]; decide) (by rw [hq]; decide) (by rw [hq]; rfl) (by decide) ?_
            refine g_aload_n (pc := 86) C dX12_lane_86 rfl 0 rfl ?_
            refine g_get (pc := 87) (v := va_rf (gR M2 x0 1)) C dX12_lane_87 kX12 hk1 1 (by decide) q_1228 rfl ?_
            replace h := bnd h; obtain ⟨a14, ea14, h⟩ := h
            refine g_refq ea14 ?_
            refine g_bipush (pc := 90) (v := 32) C dX12_lane_90 (by decide) ?_
            refine g_iload_n (pc := 92) C dX12_lane_92 rfl 1 rfl ?_
            refine g_iadd (pc := 93) C dX12_lane_93 ?_
            replace h := gd_some h; obtain ⟨hk15, h⟩ := h
            replace h := gv_some h; obtain ⟨hi16, h⟩ := h
            refine g_iald (pc := 94) C dX12_lane_94 hk15 hi16 ?_
            obtain ⟨rfl, rfl⟩ := Prod.mk.inj (Option.some.inj h)
            exact g_iret C hR dX12_lane_95
          · replace h := ifn cw24_3 h
            by_cases cw24_4 : x2 = (4 : Int32)
            · replace h := ifp cw24_4 h
              have hq : x2.toInt = 4 := by rw [cw24_4]; rfl
              refine g_tswIn (off := 78) (tgt := 96) C dX12_lane_18 (by rw [hq]; decide) (by rw [hq]; decide) (by rw [hq]; rfl) (by decide) ?_
              refine g_aload_n (pc := 96) C dX12_lane_96 rfl 0 rfl ?_
              refine g_get (pc := 97) (v := va_rf (gR M2 x0 1)) C dX12_lane_97 kX12 hk1 1 (by decide) q_1228 rfl ?_
              replace h := bnd h; obtain ⟨a17, ea17, h⟩ := h
              refine g_refq ea17 ?_
              refine g_bipush (pc := 100) (v := 42) C dX12_lane_100 (by decide) ?_
              refine g_iload_n (pc := 102) C dX12_lane_102 rfl 1 rfl ?_
              refine g_iadd (pc := 103) C dX12_lane_103 ?_
              replace h := gd_some h; obtain ⟨hk18, h⟩ := h
              replace h := gv_some h; obtain ⟨hi19, h⟩ := h
              refine g_iald (pc := 104) C dX12_lane_104 hk18 hi19 ?_
              obtain ⟨rfl, rfl⟩ := Prod.mk.inj (Option.some.inj h)
              exact g_iret C hR dX12_lane_105
            · replace h := ifn cw24_4 h
              by_cases cw24_5 : x2 = (5 : Int32)
              · replace h := ifp cw24_5 h
                have hq : x2.toInt = 5 := by rw [cw24_5]; rfl
                refine g_tswIn (off := 88) (tgt := 106) C dX12_lane_18 (by rw [hq]; decide) (by rw [hq]; decide) (by rw [hq]; rfl) (by decide) ?_
                refine g_aload_n (pc := 106) C dX12_lane_106 rfl 0 rfl ?_
                replace h := bnd2 h; obtain ⟨_u, M20, h1, h⟩ := h
                refine g_callVv (pc := 107) (As := []) (st := []) C dX12_lane_107 wX12_laysNow hk1 rfl (by decide) q_1485 q_76 q_1483 (by omega) rfl (Nat.le_of_ble_eq_true rfl) (kX12_laysNow (d := 3) (Nat.le_refl _) h1) ?_
                refine g_aload_n (pc := 110) C dX12_lane_110 rfl 0 rfl ?_
                refine g_iload_n (pc := 111) C dX12_lane_111 rfl 1 rfl ?_
                replace h := bnd2 h; obtain ⟨r21, M22, h1, h⟩ := h
                refine g_callVi (pc := 112) (As := [.int (x1)]) (st := []) C dX12_lane_112 wX12_isAtPoint hk1 rfl (by decide) q_1502 q_79 q_1500 (by omega) rfl (Nat.le_of_ble_eq_true rfl) (kX12_isAtPoint (d := 3) (Nat.le_refl _) h1) ?_
                refine g_if_eq (pc := 115) (tgt := 122) C dX12_lane_115 (by decide) (fun c23 => ?_) (fun c23 => ?_)
                · replace h := ifp c23 h
                  refine g_iconst (pc := 122) (v := 0) C dX12_lane_122 (by decide) ?_
                  obtain ⟨rfl, rfl⟩ := Prod.mk.inj (Option.some.inj h)
                  exact g_iret C hR dX12_lane_123
                · replace h := ifn c23 h
                  refine g_iconst (pc := 118) (v := 1) C dX12_lane_118 (by decide) ?_
                  refine g_goto (pc := 119) (tgt := 123) C dX12_lane_119 (by decide) ?_
                  obtain ⟨rfl, rfl⟩ := Prod.mk.inj (Option.some.inj h)
                  exact g_iret C hR dX12_lane_123
              · replace h := ifn cw24_5 h
                refine g_tswOut (tgt := 124) C dX12_lane_18 (by
                    have := sw_ne cw24_0 (i := 0) rfl
                    have := sw_ne cw24_1 (i := 1) rfl
                    have := sw_ne cw24_2 (i := 2) rfl
                    have := sw_ne cw24_3 (i := 3) rfl
                    have := sw_ne cw24_4 (i := 4) rfl
                    have := sw_ne cw24_5 (i := 5) rfl
                    omega) (by decide) ?_
                refine g_bipush (pc := 124) (v := (-2)) C dX12_lane_124 (by decide) ?_
                obtain ⟨rfl, rfl⟩ := Prod.mk.inj (Option.some.inj h)
                exact g_iret C hR dX12_lane_126
  · replace h := ifp c4 h
    refine g_bipush (pc := 14) (v := (-2)) C dX12_lane_14 (by decide) ?_
    obtain ⟨rfl, rfl⟩ := Prod.mk.inj (Option.some.inj h)
    exact g_iret C hR dX12_lane_16
theorem dX12_stress_0 : decode cX12_stress 0 = .ok (.aload_n 0, 1) := by decide +kernel
theorem dX12_stress_1 : decode cX12_stress 1 = .ok (.iconst 0, 1) := by decide +kernel
theorem dX12_stress_2 : decode cX12_stress 2 = .ok (.putfield 1, 3) := by decide +kernel
theorem dX12_stress_5 : decode cX12_stress 5 = .ok (.aload_n 0, 1) := by decide +kernel
theorem dX12_stress_6 : decode cX12_stress 6 = .ok (.iload_n 1, 1) := by decide +kernel
theorem dX12_stress_7 : decode cX12_stress 7 = .ok (.i2l, 1) := by decide +kernel
theorem dX12_stress_8 : decode cX12_stress 8 = .ok (.invokevirtual 257, 3) := by decide +kernel
theorem dX12_stress_11 : decode cX12_stress 11 = .ok (.ifCond .eq 15, 3) := by decide +kernel
theorem dX12_stress_14 : decode cX12_stress 14 = .ok (.aload_n 0, 1) := by decide +kernel
theorem dX12_stress_15 : decode cX12_stress 15 = .ok (.getfield 13, 3) := by decide +kernel
theorem dX12_stress_18 : decode cX12_stress 18 = .ok (.bipush 38, 2) := by decide +kernel
theorem dX12_stress_20 : decode cX12_stress 20 = .ok (.iload_n 1, 1) := by decide +kernel
theorem dX12_stress_21 : decode cX12_stress 21 = .ok (.iadd, 1) := by decide +kernel
theorem dX12_stress_22 : decode cX12_stress 22 = .ok (.iaload, 1) := by decide +kernel
theorem dX12_stress_23 : decode cX12_stress 23 = .ok (.goto 5, 3) := by decide +kernel
theorem dX12_stress_26 : decode cX12_stress 26 = .ok (.bipush (-2), 2) := by decide +kernel
theorem dX12_stress_28 : decode cX12_stress 28 = .ok (.ireturn, 1) := by decide +kernel
theorem wX12_stress : Mw yX12_stress cX12_stress 2 (some .int) 1 := ⟨q_1514, q_130, by decide, ⟨by decide +kernel, by decide +kernel⟩, by decide +kernel, by decide +kernel⟩
/-- EyeTrainerModel.stress(I)I -/
def fX12_stress (T : Sh) (M : Me) (x0 : Nat) (x1 : Int32) : Option (Int32 × Me) :=
  gd (kd T x0 = 11) <| lt (pI M x0 0 (0 : Int32)) fun M2 => Option.bind (fX12_isPattern T M2 x0 (Int32.toInt64 x1)) fun r3 => if r3 = 0 then (some ((-2 : Int32), M2)) else (Option.bind (gR M2 x0 1) fun a5 => gd (kd T a5 = 13) <| gv ((38 : Int32) + x1) (ln T a5) <| some ((gI M2 a5 (Int32.toNatClampNeg ((38 : Int32) + x1))), M2))
set_option maxHeartbeats 4000000 in
theorem kX12_stress {l : Launch} {B : Bx} {d : Nat} (hd : 2 ≤ d) {T : Sh} {M : Me} {x0 : Nat} {x1 : Int32} {r : Int32} {M' : Me} (h : fX12_stress T M x0 x1 = some (r, M')) : Kt l B yX12_stress cX12_stress 2 (some .int) d [.ref (x0), .int (x1)] T M (some (.int r)) T M' := by
  refine kt_of wX12_stress (Nat.le_refl _) (Nat.le_refl _) (Nat.le_of_ble_eq_true rfl) (fun X C hR hlx hin => ?_)
  subst hlx
  replace C : Cx X B cX12_stress 2 RX12 d (tp T, sl T, tp T, sl T) := C
  unfold fX12_stress at h
  show G X B 2 _ _ 0 [(0, .ref (x0)), (1, .int (x1))] [] T M
  refine g_aload_n (pc := 0) C dX12_stress_0 rfl 0 rfl ?_
  refine g_iconst (pc := 1) (v := 0) C dX12_stress_1 (by decide) ?_
  replace h := gd_some h; obtain ⟨hk1, h⟩ := h
  refine g_putI (pc := 2) C dX12_stress_2 kX12 hk1 0 (by decide) rfl rfl rfl q_1227 ?_
  refine g_mem (fun M2 eM2 => ?_)
  replace h := lt_at eM2 h
  refine g_aload_n (pc := 5) C dX12_stress_5 rfl 0 rfl ?_
  refine g_iload_n (pc := 6) C dX12_stress_6 rfl 1 rfl ?_
  refine g_i2l (pc := 7) C dX12_stress_7 ?_
  replace h := bnd h; obtain ⟨r3, h1, h⟩ := h
  refine g_callVi (pc := 8) (As := [.long (Int32.toInt64 x1)]) (st := []) C dX12_stress_8 wX12_isPattern hk1 rfl (by decide) q_1517 q_81 q_1515 (by omega) rfl (Nat.le_of_ble_eq_true rfl) (kX12_isPattern (d := 1) (Nat.le_refl _) h1) ?_
  refine g_if_eq (pc := 11) (tgt := 26) C dX12_stress_11 (by decide) (fun c4 => ?_) (fun c4 => ?_)
  · replace h := ifp c4 h
    refine g_bipush (pc := 26) (v := (-2)) C dX12_stress_26 (by decide) ?_
    obtain ⟨rfl, rfl⟩ := Prod.mk.inj (Option.some.inj h)
    exact g_iret C hR dX12_stress_28
  · replace h := ifn c4 h
    refine g_aload_n (pc := 14) C dX12_stress_14 rfl 0 rfl ?_
    refine g_get (pc := 15) (v := va_rf (gR M2 x0 1)) C dX12_stress_15 kX12 hk1 1 (by decide) q_1228 rfl ?_
    replace h := bnd h; obtain ⟨a5, ea5, h⟩ := h
    refine g_refq ea5 ?_
    refine g_bipush (pc := 18) (v := 38) C dX12_stress_18 (by decide) ?_
    refine g_iload_n (pc := 20) C dX12_stress_20 rfl 1 rfl ?_
    refine g_iadd (pc := 21) C dX12_stress_21 ?_
    replace h := gd_some h; obtain ⟨hk6, h⟩ := h
    replace h := gv_some h; obtain ⟨hi7, h⟩ := h
    refine g_iald (pc := 22) C dX12_stress_22 hk6 hi7 ?_
    refine g_goto (pc := 23) (tgt := 28) C dX12_stress_23 (by decide) ?_
    obtain ⟨rfl, rfl⟩ := Prod.mk.inj (Option.some.inj h)
    exact g_iret C hR dX12_stress_28
theorem dX12_drift_0 : decode cX12_drift 0 = .ok (.aload_n 0, 1) := by decide +kernel
theorem dX12_drift_1 : decode cX12_drift 1 = .ok (.iconst 0, 1) := by decide +kernel
theorem dX12_drift_2 : decode cX12_drift 2 = .ok (.putfield 1, 3) := by decide +kernel
theorem dX12_drift_5 : decode cX12_drift 5 = .ok (.iload_n 1, 1) := by decide +kernel
theorem dX12_drift_6 : decode cX12_drift 6 = .ok (.i2l, 1) := by decide +kernel
theorem dX12_drift_7 : decode cX12_drift 7 = .ok (.lconst 0, 1) := by decide +kernel
theorem dX12_drift_8 : decode cX12_drift 8 = .ok (.ldc2_w 260, 3) := by decide +kernel
theorem dX12_drift_11 : decode cX12_drift 11 = .ok (.invokestatic 139, 3) := by decide +kernel
theorem dX12_drift_14 : decode cX12_drift 14 = .ok (.ifCond .eq 11, 3) := by decide +kernel
theorem dX12_drift_17 : decode cX12_drift 17 = .ok (.aload_n 0, 1) := by decide +kernel
theorem dX12_drift_18 : decode cX12_drift 18 = .ok (.iload_n 1, 1) := by decide +kernel
theorem dX12_drift_19 : decode cX12_drift 19 = .ok (.invokevirtual 217, 3) := by decide +kernel
theorem dX12_drift_22 : decode cX12_drift 22 = .ok (.goto 6, 3) := by decide +kernel
theorem dX12_drift_25 : decode cX12_drift 25 = .ok (.ldc_w 262, 3) := by decide +kernel
theorem dX12_drift_28 : decode cX12_drift 28 = .ok (.ireturn, 1) := by decide +kernel
theorem wX12_drift : Mw yX12_drift cX12_drift 2 (some .int) 1 := ⟨q_1522, q_130, by decide, ⟨by decide +kernel, by decide +kernel⟩, by decide +kernel, by decide +kernel⟩
/-- EyeTrainerModel.drift(I)I -/
def fX12_drift (T : Sh) (M : Me) (x0 : Nat) (x1 : Int32) : Option (Int32 × Me) :=
  gd (kd T x0 = 11) <| lt (pI M x0 0 (0 : Int32)) fun M2 => Option.bind (fX12_within (Int32.toInt64 x1) (0 : Int64) (9999 : Int64)) fun r3 => if r3 = 0 then (some ((-99000003 : Int32), M2)) else (Option.bind (fX12_driftAt T M2 x0 x1) <| un2 fun r5 M6 => some (r5, M6))
set_option maxHeartbeats 4000000 in
theorem kX12_drift {l : Launch} {B : Bx} {d : Nat} (hd : 3 ≤ d) {T : Sh} {M : Me} {x0 : Nat} {x1 : Int32} {r : Int32} {M' : Me} (h : fX12_drift T M x0 x1 = some (r, M')) : Kt l B yX12_drift cX12_drift 2 (some .int) d [.ref (x0), .int (x1)] T M (some (.int r)) T M' := by
  refine kt_of wX12_drift (Nat.le_refl _) (Nat.le_refl _) (Nat.le_of_ble_eq_true rfl) (fun X C hR hlx hin => ?_)
  subst hlx
  replace C : Cx X B cX12_drift 2 RX12 d (tp T, sl T, tp T, sl T) := C
  unfold fX12_drift at h
  show G X B 2 _ _ 0 [(0, .ref (x0)), (1, .int (x1))] [] T M
  refine g_aload_n (pc := 0) C dX12_drift_0 rfl 0 rfl ?_
  refine g_iconst (pc := 1) (v := 0) C dX12_drift_1 (by decide) ?_
  replace h := gd_some h; obtain ⟨hk1, h⟩ := h
  refine g_putI (pc := 2) C dX12_drift_2 kX12 hk1 0 (by decide) rfl rfl rfl q_1227 ?_
  refine g_mem (fun M2 eM2 => ?_)
  replace h := lt_at eM2 h
  refine g_iload_n (pc := 5) C dX12_drift_5 rfl 1 rfl ?_
  refine g_i2l (pc := 6) C dX12_drift_6 ?_
  refine g_lconst (pc := 7) (v := 0) C dX12_drift_7 rfl ?_
  refine g_ldc2 (pc := 8) C dX12_drift_8 q_1523 ?_
  replace h := bnd h; obtain ⟨r3, h1, h⟩ := h
  refine g_callSi (pc := 11) (As := [.long (Int32.toInt64 x1), .long ((0 : Int64)), .long ((9999 : Int64))]) (st := []) C dX12_drift_11 wX12_within q_1367 q_1366 (by omega) rfl (Nat.le_of_ble_eq_true rfl) (kX12_within (d := 0) (Nat.le_refl _) h1) ?_
  refine g_if_eq (pc := 14) (tgt := 25) C dX12_drift_14 (by decide) (fun c4 => ?_) (fun c4 => ?_)
  · replace h := ifp c4 h
    refine g_ldcw (pc := 25) C dX12_drift_25 q_1524 ?_
    obtain ⟨rfl, rfl⟩ := Prod.mk.inj (Option.some.inj h)
    exact g_iret C hR dX12_drift_28
  · replace h := ifn c4 h
    refine g_aload_n (pc := 17) C dX12_drift_17 rfl 0 rfl ?_
    refine g_iload_n (pc := 18) C dX12_drift_18 rfl 1 rfl ?_
    replace h := bnd2 h; obtain ⟨r5, M6, h1, h⟩ := h
    refine g_callVi (pc := 19) (As := [.int (x1)]) (st := []) C dX12_drift_19 wX12_driftAt hk1 rfl (by decide) q_1489 q_77 q_1487 (by omega) rfl (Nat.le_of_ble_eq_true rfl) (kX12_driftAt (d := 2) (Nat.le_refl _) h1) ?_
    refine g_goto (pc := 22) (tgt := 28) C dX12_drift_22 (by decide) ?_
    obtain ⟨rfl, rfl⟩ := Prod.mk.inj (Option.some.inj h)
    exact g_iret C hR dX12_drift_28
theorem dX12_passes_0 : decode cX12_passes 0 = .ok (.aload_n 0, 1) := by decide +kernel
theorem dX12_passes_1 : decode cX12_passes 1 = .ok (.iconst 0, 1) := by decide +kernel
theorem dX12_passes_2 : decode cX12_passes 2 = .ok (.putfield 1, 3) := by decide +kernel
theorem dX12_passes_5 : decode cX12_passes 5 = .ok (.aload_n 0, 1) := by decide +kernel
theorem dX12_passes_6 : decode cX12_passes 6 = .ok (.iload_n 1, 1) := by decide +kernel
theorem dX12_passes_7 : decode cX12_passes 7 = .ok (.i2l, 1) := by decide +kernel
theorem dX12_passes_8 : decode cX12_passes 8 = .ok (.invokevirtual 247, 3) := by decide +kernel
theorem dX12_passes_11 : decode cX12_passes 11 = .ok (.ifCond .eq 11, 3) := by decide +kernel
theorem dX12_passes_14 : decode cX12_passes 14 = .ok (.iload_n 2, 1) := by decide +kernel
theorem dX12_passes_15 : decode cX12_passes 15 = .ok (.i2l, 1) := by decide +kernel
theorem dX12_passes_16 : decode cX12_passes 16 = .ok (.invokestatic 263, 3) := by decide +kernel
theorem dX12_passes_19 : decode cX12_passes 19 = .ok (.ifCond .ne 6, 3) := by decide +kernel
theorem dX12_passes_22 : decode cX12_passes 22 = .ok (.bipush (-2), 2) := by decide +kernel
theorem dX12_passes_24 : decode cX12_passes 24 = .ok (.ireturn, 1) := by decide +kernel
theorem dX12_passes_25 : decode cX12_passes 25 = .ok (.aload_n 0, 1) := by decide +kernel
theorem dX12_passes_26 : decode cX12_passes 26 = .ok (.invokevirtual 251, 3) := by decide +kernel
theorem dX12_passes_29 : decode cX12_passes 29 = .ok (.aload_n 0, 1) := by decide +kernel
theorem dX12_passes_30 : decode cX12_passes 30 = .ok (.iload_n 1, 1) := by decide +kernel
theorem dX12_passes_31 : decode cX12_passes 31 = .ok (.iload_n 2, 1) := by decide +kernel
theorem dX12_passes_32 : decode cX12_passes 32 = .ok (.invokevirtual 229, 3) := by decide +kernel
theorem dX12_passes_35 : decode cX12_passes 35 = .ok (.ifCond .eq 7, 3) := by decide +kernel
theorem dX12_passes_38 : decode cX12_passes 38 = .ok (.iconst 1, 1) := by decide +kernel
theorem dX12_passes_39 : decode cX12_passes 39 = .ok (.goto 4, 3) := by decide +kernel
theorem dX12_passes_42 : decode cX12_passes 42 = .ok (.iconst 0, 1) := by decide +kernel
theorem dX12_passes_43 : decode cX12_passes 43 = .ok (.ireturn, 1) := by decide +kernel
theorem wX12_passes : Mw yX12_passes cX12_passes 3 (some .int) 2 := ⟨q_1528, q_130, by decide, ⟨by decide +kernel, by decide +kernel⟩, by decide +kernel, by decide +kernel⟩
/-- EyeTrainerModel.passes(II)I -/
def fX12_passes (T : Sh) (M : Me) (x0 : Nat) (x1 : Int32) (x2 : Int32) : Option (Int32 × Me) :=
  gd (kd T x0 = 11) <| lt (pI M x0 0 (0 : Int32)) fun M2 => Option.bind (fX12_isLane T M2 x0 (Int32.toInt64 x1)) fun r3 => if r3 = 0 then (some ((-2 : Int32), M2)) else (Option.bind (fX12_isCell (Int32.toInt64 x2)) fun r5 => if r5 = 0 then (some ((-2 : Int32), M2)) else (Option.bind (fX12_laysNow T M2 x0) <| un2 fun _u M7 => Option.bind (fX12_isPassed T M7 x0 x1 x2) <| un2 fun r8 M9 => if r8 = 0 then (some ((0 : Int32), M9)) else (some ((1 : Int32), M9))))
set_option maxHeartbeats 4000000 in
theorem kX12_passes {l : Launch} {B : Bx} {d : Nat} (hd : 4 ≤ d) {T : Sh} {M : Me} {x0 : Nat} {x1 : Int32} {x2 : Int32} {r : Int32} {M' : Me} (h : fX12_passes T M x0 x1 x2 = some (r, M')) : Kt l B yX12_passes cX12_passes 3 (some .int) d [.ref (x0), .int (x1), .int (x2)] T M (some (.int r)) T M' := by
  refine kt_of wX12_passes (Nat.le_refl _) (Nat.le_refl _) (Nat.le_of_ble_eq_true rfl) (fun X C hR hlx hin => ?_)
  subst hlx
  replace C : Cx X B cX12_passes 3 RX12 d (tp T, sl T, tp T, sl T) := C
  unfold fX12_passes at h
  show G X B 3 _ _ 0 [(0, .ref (x0)), (1, .int (x1)), (2, .int (x2))] [] T M
  refine g_aload_n (pc := 0) C dX12_passes_0 rfl 0 rfl ?_
  refine g_iconst (pc := 1) (v := 0) C dX12_passes_1 (by decide) ?_
  replace h := gd_some h; obtain ⟨hk1, h⟩ := h
  refine g_putI (pc := 2) C dX12_passes_2 kX12 hk1 0 (by decide) rfl rfl rfl q_1227 ?_
  refine g_mem (fun M2 eM2 => ?_)
  replace h := lt_at eM2 h
  refine g_aload_n (pc := 5) C dX12_passes_5 rfl 0 rfl ?_
  refine g_iload_n (pc := 6) C dX12_passes_6 rfl 1 rfl ?_
  refine g_i2l (pc := 7) C dX12_passes_7 ?_
  replace h := bnd h; obtain ⟨r3, h1, h⟩ := h
  refine g_callVi (pc := 8) (As := [.long (Int32.toInt64 x1)]) (st := []) C dX12_passes_8 wX12_isLane hk1 rfl (by decide) q_1481 q_75 q_1479 (by omega) rfl (Nat.le_of_ble_eq_true rfl) (kX12_isLane (d := 1) (Nat.le_refl _) h1) ?_
  refine g_if_eq (pc := 11) (tgt := 22) C dX12_passes_11 (by decide) (fun c4 => ?_) (fun c4 => ?_)
  · replace h := ifp c4 h
    refine g_bipush (pc := 22) (v := (-2)) C dX12_passes_22 (by decide) ?_
    obtain ⟨rfl, rfl⟩ := Prod.mk.inj (Option.some.inj h)
    exact g_iret C hR dX12_passes_24
  · replace h := ifn c4 h
    refine g_iload_n (pc := 14) C dX12_passes_14 rfl 2 rfl ?_
    refine g_i2l (pc := 15) C dX12_passes_15 ?_
    replace h := bnd h; obtain ⟨r5, h1, h⟩ := h
    refine g_callSi (pc := 16) (As := [.long (Int32.toInt64 x2)]) (st := []) C dX12_passes_16 wX12_isCell q_1530 q_1529 (by omega) rfl (Nat.le_of_ble_eq_true rfl) (kX12_isCell (d := 1) (Nat.le_refl _) h1) ?_
    refine g_if_ne (pc := 19) (tgt := 25) C dX12_passes_19 (by decide) (fun c6 => ?_) (fun c6 => ?_)
    · replace h := ifn c6 h
      refine g_aload_n (pc := 25) C dX12_passes_25 rfl 0 rfl ?_
      replace h := bnd2 h; obtain ⟨_u, M7, h1, h⟩ := h
      refine g_callVv (pc := 26) (As := []) (st := []) C dX12_passes_26 wX12_laysNow hk1 rfl (by decide) q_1485 q_76 q_1483 (by omega) rfl (Nat.le_of_ble_eq_true rfl) (kX12_laysNow (d := 3) (Nat.le_refl _) h1) ?_
      refine g_aload_n (pc := 29) C dX12_passes_29 rfl 0 rfl ?_
      refine g_iload_n (pc := 30) C dX12_passes_30 rfl 1 rfl ?_
      refine g_iload_n (pc := 31) C dX12_passes_31 rfl 2 rfl ?_
      replace h := bnd2 h; obtain ⟨r8, M9, h1, h⟩ := h
      refine g_callVi (pc := 32) (As := [.int (x1), .int (x2)]) (st := []) C dX12_passes_32 wX12_isPassed hk1 rfl (by decide) q_1506 q_80 q_1504 (by omega) rfl (Nat.le_of_ble_eq_true rfl) (kX12_isPassed (d := 2) (Nat.le_refl _) h1) ?_
      refine g_if_eq (pc := 35) (tgt := 42) C dX12_passes_35 (by decide) (fun c10 => ?_) (fun c10 => ?_)
      · replace h := ifp c10 h
        refine g_iconst (pc := 42) (v := 0) C dX12_passes_42 (by decide) ?_
        obtain ⟨rfl, rfl⟩ := Prod.mk.inj (Option.some.inj h)
        exact g_iret C hR dX12_passes_43
      · replace h := ifn c10 h
        refine g_iconst (pc := 38) (v := 1) C dX12_passes_38 (by decide) ?_
        refine g_goto (pc := 39) (tgt := 43) C dX12_passes_39 (by decide) ?_
        obtain ⟨rfl, rfl⟩ := Prod.mk.inj (Option.some.inj h)
        exact g_iret C hR dX12_passes_43
    · replace h := ifp c6 h
      refine g_bipush (pc := 22) (v := (-2)) C dX12_passes_22 (by decide) ?_
      obtain ⟨rfl, rfl⟩ := Prod.mk.inj (Option.some.inj h)
      exact g_iret C hR dX12_passes_24
theorem dX12_row_0 : decode cX12_row 0 = .ok (.aload_n 0, 1) := by decide +kernel
theorem dX12_row_1 : decode cX12_row 1 = .ok (.iconst 0, 1) := by decide +kernel
theorem dX12_row_2 : decode cX12_row 2 = .ok (.putfield 1, 3) := by decide +kernel
theorem dX12_row_5 : decode cX12_row 5 = .ok (.aload_n 0, 1) := by decide +kernel
theorem dX12_row_6 : decode cX12_row 6 = .ok (.iload_n 1, 1) := by decide +kernel
theorem dX12_row_7 : decode cX12_row 7 = .ok (.i2l, 1) := by decide +kernel
theorem dX12_row_8 : decode cX12_row 8 = .ok (.invokevirtual 247, 3) := by decide +kernel
theorem dX12_row_11 : decode cX12_row 11 = .ok (.ifCond .eq 15, 3) := by decide +kernel
theorem dX12_row_14 : decode cX12_row 14 = .ok (.iload_n 2, 1) := by decide +kernel
theorem dX12_row_15 : decode cX12_row 15 = .ok (.i2l, 1) := by decide +kernel
theorem dX12_row_16 : decode cX12_row 16 = .ok (.lconst 0, 1) := by decide +kernel
theorem dX12_row_17 : decode cX12_row 17 = .ok (.ldc2_w 238, 3) := by decide +kernel
theorem dX12_row_20 : decode cX12_row 20 = .ok (.invokestatic 139, 3) := by decide +kernel
theorem dX12_row_23 : decode cX12_row 23 = .ok (.ifCond .ne 6, 3) := by decide +kernel
theorem dX12_row_26 : decode cX12_row 26 = .ok (.bipush (-2), 2) := by decide +kernel
theorem dX12_row_28 : decode cX12_row 28 = .ok (.ireturn, 1) := by decide +kernel
theorem dX12_row_29 : decode cX12_row 29 = .ok (.aload_n 0, 1) := by decide +kernel
theorem dX12_row_30 : decode cX12_row 30 = .ok (.invokevirtual 251, 3) := by decide +kernel
theorem dX12_row_33 : decode cX12_row 33 = .ok (.aload_n 0, 1) := by decide +kernel
theorem dX12_row_34 : decode cX12_row 34 = .ok (.iload_n 1, 1) := by decide +kernel
theorem dX12_row_35 : decode cX12_row 35 = .ok (.iload_n 2, 1) := by decide +kernel
theorem dX12_row_36 : decode cX12_row 36 = .ok (.invokevirtual 233, 3) := by decide +kernel
theorem dX12_row_39 : decode cX12_row 39 = .ok (.ireturn, 1) := by decide +kernel
theorem wX12_row : Mw yX12_row cX12_row 3 (some .int) 2 := ⟨q_1536, q_130, by decide, ⟨by decide +kernel, by decide +kernel⟩, by decide +kernel, by decide +kernel⟩
/-- EyeTrainerModel.row(II)I -/
def fX12_row (T : Sh) (M : Me) (x0 : Nat) (x1 : Int32) (x2 : Int32) : Option (Int32 × Me) :=
  gd (kd T x0 = 11) <| lt (pI M x0 0 (0 : Int32)) fun M2 => Option.bind (fX12_isLane T M2 x0 (Int32.toInt64 x1)) fun r3 => if r3 = 0 then (some ((-2 : Int32), M2)) else (Option.bind (fX12_within (Int32.toInt64 x2) (0 : Int64) (15 : Int64)) fun r5 => if r5 = 0 then (some ((-2 : Int32), M2)) else (Option.bind (fX12_laysNow T M2 x0) <| un2 fun _u M7 => Option.bind (fX12_rowOf T M7 x0 x1 x2) <| un2 fun r8 M9 => some (r8, M9)))
set_option maxHeartbeats 4000000 in
theorem kX12_row {l : Launch} {B : Bx} {d : Nat} (hd : 4 ≤ d) {T : Sh} {M : Me} {x0 : Nat} {x1 : Int32} {x2 : Int32} {r : Int32} {M' : Me} (h : fX12_row T M x0 x1 x2 = some (r, M')) : Kt l B yX12_row cX12_row 3 (some .int) d [.ref (x0), .int (x1), .int (x2)] T M (some (.int r)) T M' := by
  refine kt_of wX12_row (Nat.le_refl _) (Nat.le_refl _) (Nat.le_of_ble_eq_true rfl) (fun X C hR hlx hin => ?_)
  subst hlx
  replace C : Cx X B cX12_row 3 RX12 d (tp T, sl T, tp T, sl T) := C
  unfold fX12_row at h
  show G X B 3 _ _ 0 [(0, .ref (x0)), (1, .int (x1)), (2, .int (x2))] [] T M
  refine g_aload_n (pc := 0) C dX12_row_0 rfl 0 rfl ?_
  refine g_iconst (pc := 1) (v := 0) C dX12_row_1 (by decide) ?_
  replace h := gd_some h; obtain ⟨hk1, h⟩ := h
  refine g_putI (pc := 2) C dX12_row_2 kX12 hk1 0 (by decide) rfl rfl rfl q_1227 ?_
  refine g_mem (fun M2 eM2 => ?_)
  replace h := lt_at eM2 h
  refine g_aload_n (pc := 5) C dX12_row_5 rfl 0 rfl ?_
  refine g_iload_n (pc := 6) C dX12_row_6 rfl 1 rfl ?_
  refine g_i2l (pc := 7) C dX12_row_7 ?_
  replace h := bnd h; obtain ⟨r3, h1, h⟩ := h
  refine g_callVi (pc := 8) (As := [.long (Int32.toInt64 x1)]) (st := []) C dX12_row_8 wX12_isLane hk1 rfl (by decide) q_1481 q_75 q_1479 (by omega) rfl (Nat.le_of_ble_eq_true rfl) (kX12_isLane (d := 1) (Nat.le_refl _) h1) ?_
  refine g_if_eq (pc := 11) (tgt := 26) C dX12_row_11 (by decide) (fun c4 => ?_) (fun c4 => ?_)
  · replace h := ifp c4 h
    refine g_bipush (pc := 26) (v := (-2)) C dX12_row_26 (by decide) ?_
    obtain ⟨rfl, rfl⟩ := Prod.mk.inj (Option.some.inj h)
    exact g_iret C hR dX12_row_28
  · replace h := ifn c4 h
    refine g_iload_n (pc := 14) C dX12_row_14 rfl 2 rfl ?_
    refine g_i2l (pc := 15) C dX12_row_15 ?_
    refine g_lconst (pc := 16) (v := 0) C dX12_row_16 rfl ?_
    refine g_ldc2 (pc := 17) C dX12_row_17 q_1537 ?_
    replace h := bnd h; obtain ⟨r5, h1, h⟩ := h
    refine g_callSi (pc := 20) (As := [.long (Int32.toInt64 x2), .long ((0 : Int64)), .long ((15 : Int64))]) (st := []) C dX12_row_20 wX12_within q_1367 q_1366 (by omega) rfl (Nat.le_of_ble_eq_true rfl) (kX12_within (d := 0) (Nat.le_refl _) h1) ?_
    refine g_if_ne (pc := 23) (tgt := 29) C dX12_row_23 (by decide) (fun c6 => ?_) (fun c6 => ?_)
    · replace h := ifn c6 h
      refine g_aload_n (pc := 29) C dX12_row_29 rfl 0 rfl ?_
      replace h := bnd2 h; obtain ⟨_u, M7, h1, h⟩ := h
      refine g_callVv (pc := 30) (As := []) (st := []) C dX12_row_30 wX12_laysNow hk1 rfl (by decide) q_1485 q_76 q_1483 (by omega) rfl (Nat.le_of_ble_eq_true rfl) (kX12_laysNow (d := 3) (Nat.le_refl _) h1) ?_
      refine g_aload_n (pc := 33) C dX12_row_33 rfl 0 rfl ?_
      refine g_iload_n (pc := 34) C dX12_row_34 rfl 1 rfl ?_
      refine g_iload_n (pc := 35) C dX12_row_35 rfl 2 rfl ?_
      replace h := bnd2 h; obtain ⟨r8, M9, h1, h⟩ := h
      refine g_callVi (pc := 36) (As := [.int (x1), .int (x2)]) (st := []) C dX12_row_36 wX12_rowOf hk1 rfl (by decide) q_1540 q_82 q_1538 (by omega) rfl (Nat.le_of_ble_eq_true rfl) (kX12_rowOf (d := 3) (Nat.le_refl _) h1) ?_
      obtain ⟨rfl, rfl⟩ := Prod.mk.inj (Option.some.inj h)
      exact g_iret C hR dX12_row_39
    · replace h := ifp c6 h
      refine g_bipush (pc := 26) (v := (-2)) C dX12_row_26 (by decide) ?_
      obtain ⟨rfl, rfl⟩ := Prod.mk.inj (Option.some.inj h)
      exact g_iret C hR dX12_row_28
theorem dX12_risenOf_0 : decode cX12_risenOf 0 = .ok (.iconst 0, 1) := by decide +kernel
theorem dX12_risenOf_1 : decode cX12_risenOf 1 = .ok (.istore_n 2, 1) := by decide +kernel
theorem dX12_risenOf_2 : decode cX12_risenOf 2 = .ok (.iconst 0, 1) := by decide +kernel
theorem dX12_risenOf_3 : decode cX12_risenOf 3 = .ok (.istore_n 3, 1) := by decide +kernel
theorem dX12_risenOf_4 : decode cX12_risenOf 4 = .ok (.iload_n 3, 1) := by decide +kernel
theorem dX12_risenOf_5 : decode cX12_risenOf 5 = .ok (.bipush 24, 2) := by decide +kernel
theorem dX12_risenOf_7 : decode cX12_risenOf 7 = .ok (.if_icmp .ge 28, 3) := by decide +kernel
theorem dX12_risenOf_10 : decode cX12_risenOf 10 = .ok (.iload_n 2, 1) := by decide +kernel
theorem dX12_risenOf_11 : decode cX12_risenOf 11 = .ok (.aload_n 0, 1) := by decide +kernel
theorem dX12_risenOf_12 : decode cX12_risenOf 12 = .ok (.iload_n 1, 1) := by decide +kernel
theorem dX12_risenOf_13 : decode cX12_risenOf 13 = .ok (.iload_n 3, 1) := by decide +kernel
theorem dX12_risenOf_14 : decode cX12_risenOf 14 = .ok (.invokevirtual 266, 3) := by decide +kernel
theorem dX12_risenOf_17 : decode cX12_risenOf 17 = .ok (.ifCond .eq 9, 3) := by decide +kernel
theorem dX12_risenOf_20 : decode cX12_risenOf 20 = .ok (.iconst 1, 1) := by decide +kernel
theorem dX12_risenOf_21 : decode cX12_risenOf 21 = .ok (.iload_n 3, 1) := by decide +kernel
theorem dX12_risenOf_22 : decode cX12_risenOf 22 = .ok (.ishl, 1) := by decide +kernel
theorem dX12_risenOf_23 : decode cX12_risenOf 23 = .ok (.goto 4, 3) := by decide +kernel
theorem dX12_risenOf_26 : decode cX12_risenOf 26 = .ok (.iconst 0, 1) := by decide +kernel
theorem dX12_risenOf_27 : decode cX12_risenOf 27 = .ok (.ior, 1) := by decide +kernel
theorem dX12_risenOf_28 : decode cX12_risenOf 28 = .ok (.istore_n 2, 1) := by decide +kernel
theorem dX12_risenOf_29 : decode cX12_risenOf 29 = .ok (.iinc 3 1, 3) := by decide +kernel
theorem dX12_risenOf_32 : decode cX12_risenOf 32 = .ok (.goto (-28), 3) := by decide +kernel
theorem dX12_risenOf_35 : decode cX12_risenOf 35 = .ok (.iload_n 2, 1) := by decide +kernel
theorem dX12_risenOf_36 : decode cX12_risenOf 36 = .ok (.ireturn, 1) := by decide +kernel
theorem wX12_risenOf : Mw yX12_risenOf cX12_risenOf 4 (some .int) 1 := ⟨q_1549, q_130, by decide, ⟨by decide +kernel, by decide +kernel⟩, by decide +kernel, by decide +kernel⟩
-- a loop of EyeTrainerModel.risenOf at 4
def bX12_risenOf_4 (T : Sh) (x0 : Nat) (x1 : Int32) (x2 : Int32) (x3 : Int32) (M : Me) : Option ((Int32 × Int32 × Me) ⊕ ((Int32 × Me))) :=
  if (24 : Int32) ≤ x3 then (some (.inr (x2, M))) else (gd (kd T x0 = 11) <| Option.bind (fX12_hasRisen T M x0 x1 x3) <| un2 fun r3 M4 => if r3 = 0 then (lt (x2 ||| (0 : Int32)) fun v6 => lt (x3 + (1 : Int32)) fun v7 => some (.inl (v6, v7, M4))) else (lt (x2 ||| ((1 : Int32) <<< (x3 &&& 31))) fun v8 => lt (x3 + (1 : Int32)) fun v9 => some (.inl (v8, v9, M4))))
def PX12_risenOf_4 (X : Fx) (B : Bx) (Z : Nat × Nat × Nat × Nat) (Q : State → Prop) (T : Sh) (x0 : Nat) (x1 : Int32) (s : Int32 × Int32 × Me) : Prop := G X B 4 Z Q 4 [(0, .ref (x0)), (1, .int (x1)), (2, .int (s.1)), (3, .int (s.2.1))] [] T s.2.2
def EX12_risenOf_4 (X : Fx) (B : Bx) (Z : Nat × Nat × Nat × Nat) (Q : State → Prop) (T : Sh) (x0 : Nat) (x1 : Int32) (r : (Int32 × Me)) : Prop := G X B 4 Z Q 35 [(2, .int (r.1))] [] T r.2
set_option maxHeartbeats 4000000 in
theorem tbX12_risenOf_4 {X : Fx} {B : Bx} {Z : Nat × Nat × Nat × Nat} {Q : State → Prop} {d : Nat} {T : Sh} (C : Cx X B cX12_risenOf 4 RX12 d Z) (hd : 3 ≤ d) {x0 : Nat} {x1 : Int32} : ∀ (s : Int32 × Int32 × Me) (o : (Int32 × Int32 × Me) ⊕ ((Int32 × Me))), bX12_risenOf_4 T x0 x1 s.1 s.2.1 s.2.2 = some o → lpE (PX12_risenOf_4 X B Z Q T x0 x1) (EX12_risenOf_4 X B Z Q T x0 x1) o → PX12_risenOf_4 X B Z Q T x0 x1 s := by
  rintro ⟨x2, x3, M⟩ o h hE
  replace h : bX12_risenOf_4 T x0 x1 x2 x3 M = some o := h
  unfold bX12_risenOf_4 at h
  show G X B 4 Z Q 4 [(0, .ref (x0)), (1, .int (x1)), (2, .int (x2)), (3, .int (x3))] [] T M
  refine g_iload_n (pc := 4) C dX12_risenOf_4 rfl 3 rfl ?_
  refine g_bipush (pc := 5) (v := 24) C dX12_risenOf_5 (by decide) ?_
  refine g_icmp_ge (pc := 7) (tgt := 35) C dX12_risenOf_7 (by decide) (fun c1 => ?_) (fun c1 => ?_)
  · replace h := ifp c1 h
    obtain rfl := Option.some.inj h
    exact g_sub [2] rfl (show G X B 4 Z Q 35 [(2, .int (x2))] [] T M from hE)
  · replace h := ifn c1 h
    refine g_iload_n (pc := 10) C dX12_risenOf_10 rfl 2 rfl ?_
    refine g_aload_n (pc := 11) C dX12_risenOf_11 rfl 0 rfl ?_
    refine g_iload_n (pc := 12) C dX12_risenOf_12 rfl 1 rfl ?_
    refine g_iload_n (pc := 13) C dX12_risenOf_13 rfl 3 rfl ?_
    replace h := gd_some h; obtain ⟨hk2, h⟩ := h
    replace h := bnd2 h; obtain ⟨r3, M4, h1, h⟩ := h
    refine g_callVi (pc := 14) (As := [.int (x1), .int (x3)]) (st := [.int (x2)]) C dX12_risenOf_14 wX12_hasRisen hk2 rfl (by decide) q_1552 q_84 q_1550 (by omega) rfl (Nat.le_of_ble_eq_true rfl) (kX12_hasRisen (d := 2) (Nat.le_refl _) h1) ?_
    refine g_if_eq (pc := 17) (tgt := 26) C dX12_risenOf_17 (by decide) (fun c5 => ?_) (fun c5 => ?_)
    · replace h := ifp c5 h
      refine g_iconst (pc := 26) (v := 0) C dX12_risenOf_26 (by decide) ?_
      refine g_ior (pc := 27) C dX12_risenOf_27 ?_
      refine g_topi (fun v6 ev6 => ?_)
      replace h := lt_at ev6 h
      refine g_istore_n (pc := 28) (lo2 := [(2, .int (v6)), (0, .ref (x0)), (1, .int (x1)), (3, .int (x3))]) C dX12_risenOf_28 rfl (by decide) rfl ?_
      obtain ⟨v7, ev7⟩ : ∃ y : Int32, y = x3 + (1 : Int32) := ⟨_, rfl⟩
      replace h := lt_at ev7 h
      refine g_iinc (pc := 29) (v := v7) (k := 3) (lo2 := [(3, .int (v7)), (2, .int (v6)), (0, .ref (x0)), (1, .int (x1))]) C dX12_risenOf_29 rfl (by rw [ev7]; rfl) (by decide) rfl ?_
      refine g_goto (pc := 32) (tgt := 4) C dX12_risenOf_32 (by decide) ?_
      obtain rfl := Option.some.inj h
      exact g_sub [2, 3, 1, 0] rfl (show G X B 4 Z Q 4 [(0, .ref (x0)), (1, .int (x1)), (2, .int (v6)), (3, .int (v7))] [] T M4 from hE)
    · replace h := ifn c5 h
      refine g_iconst (pc := 20) (v := 1) C dX12_risenOf_20 (by decide) ?_
      refine g_iload_n (pc := 21) C dX12_risenOf_21 rfl 3 rfl ?_
      refine g_ishl (pc := 22) C dX12_risenOf_22 ?_
      refine g_goto (pc := 23) (tgt := 27) C dX12_risenOf_23 (by decide) ?_
      refine g_ior (pc := 27) C dX12_risenOf_27 ?_
      refine g_topi (fun v8 ev8 => ?_)
      replace h := lt_at ev8 h
      refine g_istore_n (pc := 28) (lo2 := [(2, .int (v8)), (0, .ref (x0)), (1, .int (x1)), (3, .int (x3))]) C dX12_risenOf_28 rfl (by decide) rfl ?_
      obtain ⟨v9, ev9⟩ : ∃ y : Int32, y = x3 + (1 : Int32) := ⟨_, rfl⟩
      replace h := lt_at ev9 h
      refine g_iinc (pc := 29) (v := v9) (k := 3) (lo2 := [(3, .int (v9)), (2, .int (v8)), (0, .ref (x0)), (1, .int (x1))]) C dX12_risenOf_29 rfl (by rw [ev9]; rfl) (by decide) rfl ?_
      refine g_goto (pc := 32) (tgt := 4) C dX12_risenOf_32 (by decide) ?_
      obtain rfl := Option.some.inj h
      exact g_sub [2, 3, 1, 0] rfl (show G X B 4 Z Q 4 [(0, .ref (x0)), (1, .int (x1)), (2, .int (v8)), (3, .int (v9))] [] T M4 from hE)
/-- EyeTrainerModel.risenOf(I)I -/
def fX12_risenOf (T : Sh) (M : Me) (x0 : Nat) (x1 : Int32) : Option (Int32 × Me) :=
  (lp FU (fun s => bX12_risenOf_4 T x0 x1 s.1 s.2.1 s.2.2) ((0 : Int32), (0 : Int32), M)).bind (un2 fun x2_10 M11 => some (x2_10, M11))
set_option maxHeartbeats 4000000 in
theorem kX12_risenOf {l : Launch} {B : Bx} {d : Nat} (hd : 3 ≤ d) {T : Sh} {M : Me} {x0 : Nat} {x1 : Int32} {r : Int32} {M' : Me} (h : fX12_risenOf T M x0 x1 = some (r, M')) : Kt l B yX12_risenOf cX12_risenOf 4 (some .int) d [.ref (x0), .int (x1)] T M (some (.int r)) T M' := by
  refine kt_of wX12_risenOf (Nat.le_refl _) (Nat.le_refl _) (Nat.le_of_ble_eq_true rfl) (fun X C hR hlx hin => ?_)
  subst hlx
  replace C : Cx X B cX12_risenOf 4 RX12 d (tp T, sl T, tp T, sl T) := C
  unfold fX12_risenOf at h
  show G X B 4 _ _ 0 [(0, .ref (x0)), (1, .int (x1))] [] T M
  refine g_iconst (pc := 0) (v := 0) C dX12_risenOf_0 (by decide) ?_
  refine g_istore_n (pc := 1) (lo2 := [(2, .int ((0 : Int32))), (0, .ref (x0)), (1, .int (x1))]) C dX12_risenOf_1 rfl (by decide) rfl ?_
  refine g_iconst (pc := 2) (v := 0) C dX12_risenOf_2 (by decide) ?_
  refine g_istore_n (pc := 3) (lo2 := [(3, .int ((0 : Int32))), (2, .int ((0 : Int32))), (0, .ref (x0)), (1, .int (x1))]) C dX12_risenOf_3 rfl (by decide) rfl ?_
  replace h := bnd2 h; obtain ⟨x2_10, M11, h1, h⟩ := h
  refine g_sub [2, 3, 1, 0] rfl ?_
  refine lp_G2 (P := PX12_risenOf_4 X B _ _ T x0 x1) (E := EX12_risenOf_4 X B _ _ T x0 x1) (tbX12_risenOf_4 C hd) h1 ?_
  show G X B 4 _ _ 35 [(2, .int (x2_10))] [] T M11
  refine g_iload_n (pc := 35) C dX12_risenOf_35 rfl 0 rfl ?_
  obtain ⟨rfl, rfl⟩ := Prod.mk.inj (Option.some.inj h)
  exact g_iret C hR dX12_risenOf_36
theorem dX12_risen_0 : decode cX12_risen 0 = .ok (.aload_n 0, 1) := by decide +kernel
theorem dX12_risen_1 : decode cX12_risen 1 = .ok (.iconst 0, 1) := by decide +kernel
theorem dX12_risen_2 : decode cX12_risen 2 = .ok (.putfield 1, 3) := by decide +kernel
theorem dX12_risen_5 : decode cX12_risen 5 = .ok (.aload_n 0, 1) := by decide +kernel
theorem dX12_risen_6 : decode cX12_risen 6 = .ok (.iload_n 1, 1) := by decide +kernel
theorem dX12_risen_7 : decode cX12_risen 7 = .ok (.i2l, 1) := by decide +kernel
theorem dX12_risen_8 : decode cX12_risen 8 = .ok (.invokevirtual 247, 3) := by decide +kernel
theorem dX12_risen_11 : decode cX12_risen 11 = .ok (.ifCond .ne 6, 3) := by decide +kernel
theorem dX12_risen_14 : decode cX12_risen 14 = .ok (.bipush (-2), 2) := by decide +kernel
theorem dX12_risen_16 : decode cX12_risen 16 = .ok (.ireturn, 1) := by decide +kernel
theorem dX12_risen_17 : decode cX12_risen 17 = .ok (.aload_n 0, 1) := by decide +kernel
theorem dX12_risen_18 : decode cX12_risen 18 = .ok (.invokevirtual 251, 3) := by decide +kernel
theorem dX12_risen_21 : decode cX12_risen 21 = .ok (.aload_n 0, 1) := by decide +kernel
theorem dX12_risen_22 : decode cX12_risen 22 = .ok (.iload_n 1, 1) := by decide +kernel
theorem dX12_risen_23 : decode cX12_risen 23 = .ok (.invokevirtual 269, 3) := by decide +kernel
theorem dX12_risen_26 : decode cX12_risen 26 = .ok (.ireturn, 1) := by decide +kernel
theorem wX12_risen : Mw yX12_risen cX12_risen 2 (some .int) 1 := ⟨q_1545, q_130, by decide, ⟨by decide +kernel, by decide +kernel⟩, by decide +kernel, by decide +kernel⟩
/-- EyeTrainerModel.risen(I)I -/
def fX12_risen (T : Sh) (M : Me) (x0 : Nat) (x1 : Int32) : Option (Int32 × Me) :=
  gd (kd T x0 = 11) <| lt (pI M x0 0 (0 : Int32)) fun M2 => Option.bind (fX12_isLane T M2 x0 (Int32.toInt64 x1)) fun r3 => if r3 = 0 then (some ((-2 : Int32), M2)) else (Option.bind (fX12_laysNow T M2 x0) <| un2 fun _u M5 => Option.bind (fX12_risenOf T M5 x0 x1) <| un2 fun r6 M7 => some (r6, M7))
set_option maxHeartbeats 4000000 in
theorem kX12_risen {l : Launch} {B : Bx} {d : Nat} (hd : 4 ≤ d) {T : Sh} {M : Me} {x0 : Nat} {x1 : Int32} {r : Int32} {M' : Me} (h : fX12_risen T M x0 x1 = some (r, M')) : Kt l B yX12_risen cX12_risen 2 (some .int) d [.ref (x0), .int (x1)] T M (some (.int r)) T M' := by
  refine kt_of wX12_risen (Nat.le_refl _) (Nat.le_refl _) (Nat.le_of_ble_eq_true rfl) (fun X C hR hlx hin => ?_)
  subst hlx
  replace C : Cx X B cX12_risen 2 RX12 d (tp T, sl T, tp T, sl T) := C
  unfold fX12_risen at h
  show G X B 2 _ _ 0 [(0, .ref (x0)), (1, .int (x1))] [] T M
  refine g_aload_n (pc := 0) C dX12_risen_0 rfl 0 rfl ?_
  refine g_iconst (pc := 1) (v := 0) C dX12_risen_1 (by decide) ?_
  replace h := gd_some h; obtain ⟨hk1, h⟩ := h
  refine g_putI (pc := 2) C dX12_risen_2 kX12 hk1 0 (by decide) rfl rfl rfl q_1227 ?_
  refine g_mem (fun M2 eM2 => ?_)
  replace h := lt_at eM2 h
  refine g_aload_n (pc := 5) C dX12_risen_5 rfl 0 rfl ?_
  refine g_iload_n (pc := 6) C dX12_risen_6 rfl 1 rfl ?_
  refine g_i2l (pc := 7) C dX12_risen_7 ?_
  replace h := bnd h; obtain ⟨r3, h1, h⟩ := h
  refine g_callVi (pc := 8) (As := [.long (Int32.toInt64 x1)]) (st := []) C dX12_risen_8 wX12_isLane hk1 rfl (by decide) q_1481 q_75 q_1479 (by omega) rfl (Nat.le_of_ble_eq_true rfl) (kX12_isLane (d := 1) (Nat.le_refl _) h1) ?_
  refine g_if_ne (pc := 11) (tgt := 17) C dX12_risen_11 (by decide) (fun c4 => ?_) (fun c4 => ?_)
  · replace h := ifn c4 h
    refine g_aload_n (pc := 17) C dX12_risen_17 rfl 0 rfl ?_
    replace h := bnd2 h; obtain ⟨_u, M5, h1, h⟩ := h
    refine g_callVv (pc := 18) (As := []) (st := []) C dX12_risen_18 wX12_laysNow hk1 rfl (by decide) q_1485 q_76 q_1483 (by omega) rfl (Nat.le_of_ble_eq_true rfl) (kX12_laysNow (d := 3) (Nat.le_refl _) h1) ?_
    refine g_aload_n (pc := 21) C dX12_risen_21 rfl 0 rfl ?_
    refine g_iload_n (pc := 22) C dX12_risen_22 rfl 1 rfl ?_
    replace h := bnd2 h; obtain ⟨r6, M7, h1, h⟩ := h
    refine g_callVi (pc := 23) (As := [.int (x1)]) (st := []) C dX12_risen_23 wX12_risenOf hk1 rfl (by decide) q_1548 q_83 q_1546 (by omega) rfl (Nat.le_of_ble_eq_true rfl) (kX12_risenOf (d := 3) (Nat.le_refl _) h1) ?_
    obtain ⟨rfl, rfl⟩ := Prod.mk.inj (Option.some.inj h)
    exact g_iret C hR dX12_risen_26
  · replace h := ifp c4 h
    refine g_bipush (pc := 14) (v := (-2)) C dX12_risen_14 (by decide) ?_
    obtain ⟨rfl, rfl⟩ := Prod.mk.inj (Option.some.inj h)
    exact g_iret C hR dX12_risen_16
theorem dX12_longestIn_0 : decode cX12_longestIn 0 = .ok (.iconst 0, 1) := by decide +kernel
theorem dX12_longestIn_1 : decode cX12_longestIn 1 = .ok (.istore_n 2, 1) := by decide +kernel
theorem dX12_longestIn_2 : decode cX12_longestIn 2 = .ok (.iconst 0, 1) := by decide +kernel
theorem dX12_longestIn_3 : decode cX12_longestIn 3 = .ok (.istore_n 3, 1) := by decide +kernel
theorem dX12_longestIn_4 : decode cX12_longestIn 4 = .ok (.aload_n 0, 1) := by decide +kernel
theorem dX12_longestIn_5 : decode cX12_longestIn 5 = .ok (.iconst (-1), 1) := by decide +kernel
theorem dX12_longestIn_6 : decode cX12_longestIn 6 = .ok (.putfield 272, 3) := by decide +kernel
theorem dX12_longestIn_9 : decode cX12_longestIn 9 = .ok (.iconst 0, 1) := by decide +kernel
theorem dX12_longestIn_10 : decode cX12_longestIn 10 = .ok (.istore 4, 2) := by decide +kernel
theorem dX12_longestIn_12 : decode cX12_longestIn 12 = .ok (.iload 4, 2) := by decide +kernel
theorem dX12_longestIn_14 : decode cX12_longestIn 14 = .ok (.bipush 24, 2) := by decide +kernel
theorem dX12_longestIn_16 : decode cX12_longestIn 16 = .ok (.if_icmp .ge 47, 3) := by decide +kernel
theorem dX12_longestIn_19 : decode cX12_longestIn 19 = .ok (.iload_n 1, 1) := by decide +kernel
theorem dX12_longestIn_20 : decode cX12_longestIn 20 = .ok (.i2l, 1) := by decide +kernel
theorem dX12_longestIn_21 : decode cX12_longestIn 21 = .ok (.iload 4, 2) := by decide +kernel
theorem dX12_longestIn_23 : decode cX12_longestIn 23 = .ok (.invokestatic 240, 3) := by decide +kernel
theorem dX12_longestIn_26 : decode cX12_longestIn 26 = .ok (.ifCond .eq 9, 3) := by decide +kernel
theorem dX12_longestIn_29 : decode cX12_longestIn 29 = .ok (.iload_n 3, 1) := by decide +kernel
theorem dX12_longestIn_30 : decode cX12_longestIn 30 = .ok (.iconst 1, 1) := by decide +kernel
theorem dX12_longestIn_31 : decode cX12_longestIn 31 = .ok (.iadd, 1) := by decide +kernel
theorem dX12_longestIn_32 : decode cX12_longestIn 32 = .ok (.goto 4, 3) := by decide +kernel
theorem dX12_longestIn_35 : decode cX12_longestIn 35 = .ok (.iconst 0, 1) := by decide +kernel
theorem dX12_longestIn_36 : decode cX12_longestIn 36 = .ok (.istore_n 3, 1) := by decide +kernel
theorem dX12_longestIn_37 : decode cX12_longestIn 37 = .ok (.iload_n 3, 1) := by decide +kernel
theorem dX12_longestIn_38 : decode cX12_longestIn 38 = .ok (.iload_n 2, 1) := by decide +kernel
theorem dX12_longestIn_39 : decode cX12_longestIn 39 = .ok (.if_icmp .gt 6, 3) := by decide +kernel
theorem dX12_longestIn_42 : decode cX12_longestIn 42 = .ok (.goto 15, 3) := by decide +kernel
theorem dX12_longestIn_45 : decode cX12_longestIn 45 = .ok (.iload_n 3, 1) := by decide +kernel
theorem dX12_longestIn_46 : decode cX12_longestIn 46 = .ok (.istore_n 2, 1) := by decide +kernel
theorem dX12_longestIn_47 : decode cX12_longestIn 47 = .ok (.aload_n 0, 1) := by decide +kernel
theorem dX12_longestIn_48 : decode cX12_longestIn 48 = .ok (.iload 4, 2) := by decide +kernel
theorem dX12_longestIn_50 : decode cX12_longestIn 50 = .ok (.iload_n 3, 1) := by decide +kernel
theorem dX12_longestIn_51 : decode cX12_longestIn 51 = .ok (.isub, 1) := by decide +kernel
theorem dX12_longestIn_52 : decode cX12_longestIn 52 = .ok (.iconst 1, 1) := by decide +kernel
theorem dX12_longestIn_53 : decode cX12_longestIn 53 = .ok (.iadd, 1) := by decide +kernel
theorem dX12_longestIn_54 : decode cX12_longestIn 54 = .ok (.putfield 272, 3) := by decide +kernel
theorem dX12_longestIn_57 : decode cX12_longestIn 57 = .ok (.iinc 4 1, 3) := by decide +kernel
theorem dX12_longestIn_60 : decode cX12_longestIn 60 = .ok (.goto (-48), 3) := by decide +kernel
theorem dX12_longestIn_63 : decode cX12_longestIn 63 = .ok (.iload_n 2, 1) := by decide +kernel
theorem dX12_longestIn_64 : decode cX12_longestIn 64 = .ok (.ireturn, 1) := by decide +kernel
theorem wX12_longestIn : Mw yX12_longestIn cX12_longestIn 5 (some .int) 1 := ⟨q_1601, q_130, by decide, ⟨by decide +kernel, by decide +kernel⟩, by decide +kernel, by decide +kernel⟩
-- a loop of EyeTrainerModel.longestIn at 12
def jX12_longestIn_36 (T : Sh) (M : Me) (x0 : Nat) (x1 : Int32) (x2 : Int32) (x4 : Int32) (s0 : Int32) : Option ((Int32 × Int32 × Int32 × Me) ⊕ ((Int32 × Me))) :=
  if x2 < s0 then (gd (kd T x0 = 11) <| lt (pI M x0 28 ((x4 - s0) + (1 : Int32))) fun M8 => lt (x4 + (1 : Int32)) fun v9 => some (.inl (s0, s0, v9, M8))) else (lt (x4 + (1 : Int32)) fun v10 => some (.inl (x2, s0, v10, M)))
def bX12_longestIn_12 (T : Sh) (x0 : Nat) (x1 : Int32) (x2 : Int32) (x3 : Int32) (x4 : Int32) (M : Me) : Option ((Int32 × Int32 × Int32 × Me) ⊕ ((Int32 × Me))) :=
  if (24 : Int32) ≤ x4 then (some (.inr (x2, M))) else (Option.bind (fX12_isIn (Int32.toInt64 x1) x4) fun r4 => if r4 = 0 then (jX12_longestIn_36 T M x0 x1 x2 x4 (0 : Int32)) else (jX12_longestIn_36 T M x0 x1 x2 x4 (x3 + (1 : Int32))))
def PX12_longestIn_12 (X : Fx) (B : Bx) (Z : Nat × Nat × Nat × Nat) (Q : State → Prop) (T : Sh) (x0 : Nat) (x1 : Int32) (s : Int32 × Int32 × Int32 × Me) : Prop := G X B 5 Z Q 12 [(0, .ref (x0)), (1, .int (x1)), (2, .int (s.1)), (3, .int (s.2.1)), (4, .int (s.2.2.1))] [] T s.2.2.2
def EX12_longestIn_12 (X : Fx) (B : Bx) (Z : Nat × Nat × Nat × Nat) (Q : State → Prop) (T : Sh) (x0 : Nat) (x1 : Int32) (r : (Int32 × Me)) : Prop := G X B 5 Z Q 63 [(2, .int (r.1))] [] T r.2
set_option maxHeartbeats 4000000 in
theorem tjX12_longestIn_36 {X : Fx} {B : Bx} {Z : Nat × Nat × Nat × Nat} {Q : State → Prop} {d : Nat} {T : Sh} {M : Me} {x0 : Nat} {x1 : Int32} {x2 : Int32} {x4 : Int32} {s0 : Int32} {o : (Int32 × Int32 × Int32 × Me) ⊕ ((Int32 × Me))} (C : Cx X B cX12_longestIn 5 RX12 d Z) (hd : 1 ≤ d) (h : jX12_longestIn_36 T M x0 x1 x2 x4 s0 = some o) (hE : lpE (PX12_longestIn_12 X B Z Q T x0 x1) (EX12_longestIn_12 X B Z Q T x0 x1) o) : G X B 5 Z Q 36 [(0, .ref (x0)), (1, .int (x1)), (2, .int (x2)), (4, .int (x4))] [.int (s0)] T M := by
  unfold jX12_longestIn_36 at h
  refine g_istore_n (pc := 36) (lo2 := [(3, .int (s0)), (0, .ref (x0)), (1, .int (x1)), (2, .int (x2)), (4, .int (x4))]) C dX12_longestIn_36 rfl (by decide) rfl ?_
  refine g_iload_n (pc := 37) C dX12_longestIn_37 rfl 0 rfl ?_
  refine g_iload_n (pc := 38) C dX12_longestIn_38 rfl 3 rfl ?_
  refine g_icmp_gt (pc := 39) (tgt := 45) C dX12_longestIn_39 (by decide) (fun c6 => ?_) (fun c6 => ?_)
  · replace h := ifp c6 h
    refine g_iload_n (pc := 45) C dX12_longestIn_45 rfl 0 rfl ?_
    refine g_istore_n (pc := 46) (lo2 := [(2, .int (s0)), (3, .int (s0)), (0, .ref (x0)), (1, .int (x1)), (4, .int (x4))]) C dX12_longestIn_46 rfl (by decide) rfl ?_
    refine g_aload_n (pc := 47) C dX12_longestIn_47 rfl 2 rfl ?_
    refine g_iload (pc := 48) C dX12_longestIn_48 4 rfl ?_
    refine g_iload_n (pc := 50) C dX12_longestIn_50 rfl 1 rfl ?_
    refine g_isub (pc := 51) C dX12_longestIn_51 ?_
    refine g_iconst (pc := 52) (v := 1) C dX12_longestIn_52 (by decide) ?_
    refine g_iadd (pc := 53) C dX12_longestIn_53 ?_
    replace h := gd_some h; obtain ⟨hk7, h⟩ := h
    refine g_putI (pc := 54) C dX12_longestIn_54 kX12 hk7 28 (by decide) rfl rfl rfl q_1255 ?_
    refine g_mem (fun M8 eM8 => ?_)
    replace h := lt_at eM8 h
    obtain ⟨v9, ev9⟩ : ∃ y : Int32, y = x4 + (1 : Int32) := ⟨_, rfl⟩
    replace h := lt_at ev9 h
    refine g_iinc (pc := 57) (v := v9) (k := 4) (lo2 := [(4, .int (v9)), (2, .int (s0)), (3, .int (s0)), (0, .ref (x0)), (1, .int (x1))]) C dX12_longestIn_57 rfl (by rw [ev9]; rfl) (by decide) rfl ?_
    refine g_goto (pc := 60) (tgt := 12) C dX12_longestIn_60 (by decide) ?_
    obtain rfl := Option.some.inj h
    exact g_sub [3, 4, 1, 2, 0] rfl (show G X B 5 Z Q 12 [(0, .ref (x0)), (1, .int (x1)), (2, .int (s0)), (3, .int (s0)), (4, .int (v9))] [] T M8 from hE)
  · replace h := ifn c6 h
    refine g_goto (pc := 42) (tgt := 57) C dX12_longestIn_42 (by decide) ?_
    obtain ⟨v10, ev10⟩ : ∃ y : Int32, y = x4 + (1 : Int32) := ⟨_, rfl⟩
    replace h := lt_at ev10 h
    refine g_iinc (pc := 57) (v := v10) (k := 4) (lo2 := [(4, .int (v10)), (3, .int (s0)), (0, .ref (x0)), (1, .int (x1)), (2, .int (x2))]) C dX12_longestIn_57 rfl (by rw [ev10]; rfl) (by decide) rfl ?_
    refine g_goto (pc := 60) (tgt := 12) C dX12_longestIn_60 (by decide) ?_
    obtain rfl := Option.some.inj h
    exact g_sub [2, 3, 4, 1, 0] rfl (show G X B 5 Z Q 12 [(0, .ref (x0)), (1, .int (x1)), (2, .int (x2)), (3, .int (s0)), (4, .int (v10))] [] T M from hE)
set_option maxHeartbeats 4000000 in
theorem tbX12_longestIn_12 {X : Fx} {B : Bx} {Z : Nat × Nat × Nat × Nat} {Q : State → Prop} {d : Nat} {T : Sh} (C : Cx X B cX12_longestIn 5 RX12 d Z) (hd : 1 ≤ d) {x0 : Nat} {x1 : Int32} : ∀ (s : Int32 × Int32 × Int32 × Me) (o : (Int32 × Int32 × Int32 × Me) ⊕ ((Int32 × Me))), bX12_longestIn_12 T x0 x1 s.1 s.2.1 s.2.2.1 s.2.2.2 = some o → lpE (PX12_longestIn_12 X B Z Q T x0 x1) (EX12_longestIn_12 X B Z Q T x0 x1) o → PX12_longestIn_12 X B Z Q T x0 x1 s := by
  rintro ⟨x2, x3, x4, M⟩ o h hE
  replace h : bX12_longestIn_12 T x0 x1 x2 x3 x4 M = some o := h
  unfold bX12_longestIn_12 at h
  show G X B 5 Z Q 12 [(0, .ref (x0)), (1, .int (x1)), (2, .int (x2)), (3, .int (x3)), (4, .int (x4))] [] T M
  refine g_iload (pc := 12) C dX12_longestIn_12 4 rfl ?_
  refine g_bipush (pc := 14) (v := 24) C dX12_longestIn_14 (by decide) ?_
  refine g_icmp_ge (pc := 16) (tgt := 63) C dX12_longestIn_16 (by decide) (fun c3 => ?_) (fun c3 => ?_)
  · replace h := ifp c3 h
    obtain rfl := Option.some.inj h
    exact g_sub [2] rfl (show G X B 5 Z Q 63 [(2, .int (x2))] [] T M from hE)
  · replace h := ifn c3 h
    refine g_iload_n (pc := 19) C dX12_longestIn_19 rfl 1 rfl ?_
    refine g_i2l (pc := 20) C dX12_longestIn_20 ?_
    refine g_iload (pc := 21) C dX12_longestIn_21 4 rfl ?_
    replace h := bnd h; obtain ⟨r4, h1, h⟩ := h
    refine g_callSi (pc := 23) (As := [.long (Int32.toInt64 x1), .int (x4)]) (st := []) C dX12_longestIn_23 wX12_isIn q_1580 q_1579 (by omega) rfl (Nat.le_of_ble_eq_true rfl) (kX12_isIn (d := 0) (Nat.le_refl _) h1) ?_
    refine g_if_eq (pc := 26) (tgt := 35) C dX12_longestIn_26 (by decide) (fun c5 => ?_) (fun c5 => ?_)
    · replace h := ifp c5 h
      refine g_iconst (pc := 35) (v := 0) C dX12_longestIn_35 (by decide) ?_
      exact g_sub [0, 1, 2, 4] rfl (tjX12_longestIn_36 C hd h hE)
    · replace h := ifn c5 h
      refine g_iload_n (pc := 29) C dX12_longestIn_29 rfl 3 rfl ?_
      refine g_iconst (pc := 30) (v := 1) C dX12_longestIn_30 (by decide) ?_
      refine g_iadd (pc := 31) C dX12_longestIn_31 ?_
      refine g_goto (pc := 32) (tgt := 36) C dX12_longestIn_32 (by decide) ?_
      exact g_sub [0, 1, 2, 4] rfl (tjX12_longestIn_36 C hd h hE)
/-- EyeTrainerModel.longestIn(I)I -/
def fX12_longestIn (T : Sh) (M : Me) (x0 : Nat) (x1 : Int32) : Option (Int32 × Me) :=
  gd (kd T x0 = 11) <| lt (pI M x0 28 (-1 : Int32)) fun M2 => (lp FU (fun s => bX12_longestIn_12 T x0 x1 s.1 s.2.1 s.2.2.1 s.2.2.2) ((0 : Int32), (0 : Int32), (0 : Int32), M2)).bind (un2 fun x2_11 M12 => some (x2_11, M12))
set_option maxHeartbeats 4000000 in
theorem kX12_longestIn {l : Launch} {B : Bx} {d : Nat} (hd : 1 ≤ d) {T : Sh} {M : Me} {x0 : Nat} {x1 : Int32} {r : Int32} {M' : Me} (h : fX12_longestIn T M x0 x1 = some (r, M')) : Kt l B yX12_longestIn cX12_longestIn 5 (some .int) d [.ref (x0), .int (x1)] T M (some (.int r)) T M' := by
  refine kt_of wX12_longestIn (Nat.le_refl _) (Nat.le_refl _) (Nat.le_of_ble_eq_true rfl) (fun X C hR hlx hin => ?_)
  subst hlx
  replace C : Cx X B cX12_longestIn 5 RX12 d (tp T, sl T, tp T, sl T) := C
  unfold fX12_longestIn at h
  show G X B 5 _ _ 0 [(0, .ref (x0)), (1, .int (x1))] [] T M
  refine g_iconst (pc := 0) (v := 0) C dX12_longestIn_0 (by decide) ?_
  refine g_istore_n (pc := 1) (lo2 := [(2, .int ((0 : Int32))), (0, .ref (x0)), (1, .int (x1))]) C dX12_longestIn_1 rfl (by decide) rfl ?_
  refine g_iconst (pc := 2) (v := 0) C dX12_longestIn_2 (by decide) ?_
  refine g_istore_n (pc := 3) (lo2 := [(3, .int ((0 : Int32))), (2, .int ((0 : Int32))), (0, .ref (x0)), (1, .int (x1))]) C dX12_longestIn_3 rfl (by decide) rfl ?_
  refine g_aload_n (pc := 4) C dX12_longestIn_4 rfl 2 rfl ?_
  refine g_iconst (pc := 5) (v := (-1)) C dX12_longestIn_5 (by decide) ?_
  replace h := gd_some h; obtain ⟨hk1, h⟩ := h
  refine g_putI (pc := 6) C dX12_longestIn_6 kX12 hk1 28 (by decide) rfl rfl rfl q_1255 ?_
  refine g_mem (fun M2 eM2 => ?_)
  replace h := lt_at eM2 h
  refine g_iconst (pc := 9) (v := 0) C dX12_longestIn_9 (by decide) ?_
  refine g_istore (pc := 10) (lo2 := [(4, .int ((0 : Int32))), (3, .int ((0 : Int32))), (2, .int ((0 : Int32))), (0, .ref (x0)), (1, .int (x1))]) C dX12_longestIn_10 (by decide) rfl ?_
  replace h := bnd2 h; obtain ⟨x2_11, M12, h1, h⟩ := h
  refine g_sub [3, 4, 2, 1, 0] rfl ?_
  refine lp_G2 (P := PX12_longestIn_12 X B _ _ T x0 x1) (E := EX12_longestIn_12 X B _ _ T x0 x1) (tbX12_longestIn_12 C hd) h1 ?_
  show G X B 5 _ _ 63 [(2, .int (x2_11))] [] T M12
  refine g_iload_n (pc := 63) C dX12_longestIn_63 rfl 0 rfl ?_
  obtain ⟨rfl, rfl⟩ := Prod.mk.inj (Option.some.inj h)
  exact g_iret C hR dX12_longestIn_64
theorem dX12_laysRectangle_0 : decode cX12_laysRectangle 0 = .ok (.aload_n 0, 1) := by decide +kernel
theorem dX12_laysRectangle_1 : decode cX12_laysRectangle 1 = .ok (.iconst 0, 1) := by decide +kernel
theorem dX12_laysRectangle_2 : decode cX12_laysRectangle 2 = .ok (.putfield 275, 3) := by decide +kernel
theorem dX12_laysRectangle_5 : decode cX12_laysRectangle 5 = .ok (.iconst 0, 1) := by decide +kernel
theorem dX12_laysRectangle_6 : decode cX12_laysRectangle 6 = .ok (.istore_n 1, 1) := by decide +kernel
theorem dX12_laysRectangle_7 : decode cX12_laysRectangle 7 = .ok (.iload_n 1, 1) := by decide +kernel
theorem dX12_laysRectangle_8 : decode cX12_laysRectangle 8 = .ok (.bipush 16, 2) := by decide +kernel
theorem dX12_laysRectangle_10 : decode cX12_laysRectangle 10 = .ok (.if_icmp .ge 104, 3) := by decide +kernel
theorem dX12_laysRectangle_13 : decode cX12_laysRectangle 13 = .ok (.ldc_w 278, 3) := by decide +kernel
theorem dX12_laysRectangle_16 : decode cX12_laysRectangle 16 = .ok (.istore_n 2, 1) := by decide +kernel
theorem dX12_laysRectangle_17 : decode cX12_laysRectangle 17 = .ok (.iload_n 1, 1) := by decide +kernel
theorem dX12_laysRectangle_18 : decode cX12_laysRectangle 18 = .ok (.istore_n 3, 1) := by decide +kernel
theorem dX12_laysRectangle_19 : decode cX12_laysRectangle 19 = .ok (.iload_n 3, 1) := by decide +kernel
theorem dX12_laysRectangle_20 : decode cX12_laysRectangle 20 = .ok (.bipush 16, 2) := by decide +kernel
theorem dX12_laysRectangle_22 : decode cX12_laysRectangle 22 = .ok (.if_icmp .ge 86, 3) := by decide +kernel
theorem dX12_laysRectangle_25 : decode cX12_laysRectangle 25 = .ok (.iload_n 2, 1) := by decide +kernel
theorem dX12_laysRectangle_26 : decode cX12_laysRectangle 26 = .ok (.aload_n 0, 1) := by decide +kernel
theorem dX12_laysRectangle_27 : decode cX12_laysRectangle 27 = .ok (.getfield 36, 3) := by decide +kernel
theorem dX12_laysRectangle_30 : decode cX12_laysRectangle 30 = .ok (.iload_n 3, 1) := by decide +kernel
theorem dX12_laysRectangle_31 : decode cX12_laysRectangle 31 = .ok (.iaload, 1) := by decide +kernel
theorem dX12_laysRectangle_32 : decode cX12_laysRectangle 32 = .ok (.iand, 1) := by decide +kernel
theorem dX12_laysRectangle_33 : decode cX12_laysRectangle 33 = .ok (.istore_n 2, 1) := by decide +kernel
theorem dX12_laysRectangle_34 : decode cX12_laysRectangle 34 = .ok (.aload_n 0, 1) := by decide +kernel
theorem dX12_laysRectangle_35 : decode cX12_laysRectangle 35 = .ok (.iload_n 2, 1) := by decide +kernel
theorem dX12_laysRectangle_36 : decode cX12_laysRectangle 36 = .ok (.invokevirtual 279, 3) := by decide +kernel
theorem dX12_laysRectangle_39 : decode cX12_laysRectangle 39 = .ok (.istore 4, 2) := by decide +kernel
theorem dX12_laysRectangle_41 : decode cX12_laysRectangle 41 = .ok (.iload 4, 2) := by decide +kernel
theorem dX12_laysRectangle_43 : decode cX12_laysRectangle 43 = .ok (.iload_n 3, 1) := by decide +kernel
theorem dX12_laysRectangle_44 : decode cX12_laysRectangle 44 = .ok (.iload_n 1, 1) := by decide +kernel
theorem dX12_laysRectangle_45 : decode cX12_laysRectangle 45 = .ok (.isub, 1) := by decide +kernel
theorem dX12_laysRectangle_46 : decode cX12_laysRectangle 46 = .ok (.iconst 1, 1) := by decide +kernel
theorem dX12_laysRectangle_47 : decode cX12_laysRectangle 47 = .ok (.iadd, 1) := by decide +kernel
theorem dX12_laysRectangle_48 : decode cX12_laysRectangle 48 = .ok (.imul, 1) := by decide +kernel
theorem dX12_laysRectangle_49 : decode cX12_laysRectangle 49 = .ok (.aload_n 0, 1) := by decide +kernel
theorem dX12_laysRectangle_50 : decode cX12_laysRectangle 50 = .ok (.getfield 275, 3) := by decide +kernel
theorem dX12_laysRectangle_53 : decode cX12_laysRectangle 53 = .ok (.if_icmp .gt 6, 3) := by decide +kernel
theorem dX12_laysRectangle_56 : decode cX12_laysRectangle 56 = .ok (.goto 46, 3) := by decide +kernel
theorem dX12_laysRectangle_59 : decode cX12_laysRectangle 59 = .ok (.aload_n 0, 1) := by decide +kernel
theorem dX12_laysRectangle_60 : decode cX12_laysRectangle 60 = .ok (.iload 4, 2) := by decide +kernel
theorem dX12_laysRectangle_62 : decode cX12_laysRectangle 62 = .ok (.iload_n 3, 1) := by decide +kernel
theorem dX12_laysRectangle_63 : decode cX12_laysRectangle 63 = .ok (.iload_n 1, 1) := by decide +kernel
theorem dX12_laysRectangle_64 : decode cX12_laysRectangle 64 = .ok (.isub, 1) := by decide +kernel
theorem dX12_laysRectangle_65 : decode cX12_laysRectangle 65 = .ok (.iconst 1, 1) := by decide +kernel
theorem dX12_laysRectangle_66 : decode cX12_laysRectangle 66 = .ok (.iadd, 1) := by decide +kernel
theorem dX12_laysRectangle_67 : decode cX12_laysRectangle 67 = .ok (.imul, 1) := by decide +kernel
theorem dX12_laysRectangle_68 : decode cX12_laysRectangle 68 = .ok (.putfield 275, 3) := by decide +kernel
theorem dX12_laysRectangle_71 : decode cX12_laysRectangle 71 = .ok (.aload_n 0, 1) := by decide +kernel
theorem dX12_laysRectangle_72 : decode cX12_laysRectangle 72 = .ok (.aload_n 0, 1) := by decide +kernel
theorem dX12_laysRectangle_73 : decode cX12_laysRectangle 73 = .ok (.getfield 272, 3) := by decide +kernel
theorem dX12_laysRectangle_76 : decode cX12_laysRectangle 76 = .ok (.putfield 282, 3) := by decide +kernel
theorem dX12_laysRectangle_79 : decode cX12_laysRectangle 79 = .ok (.aload_n 0, 1) := by decide +kernel
theorem dX12_laysRectangle_80 : decode cX12_laysRectangle 80 = .ok (.aload_n 0, 1) := by decide +kernel
theorem dX12_laysRectangle_81 : decode cX12_laysRectangle 81 = .ok (.getfield 272, 3) := by decide +kernel
theorem dX12_laysRectangle_84 : decode cX12_laysRectangle 84 = .ok (.iload 4, 2) := by decide +kernel
theorem dX12_laysRectangle_86 : decode cX12_laysRectangle 86 = .ok (.iadd, 1) := by decide +kernel
theorem dX12_laysRectangle_87 : decode cX12_laysRectangle 87 = .ok (.iconst 1, 1) := by decide +kernel
theorem dX12_laysRectangle_88 : decode cX12_laysRectangle 88 = .ok (.isub, 1) := by decide +kernel
theorem dX12_laysRectangle_89 : decode cX12_laysRectangle 89 = .ok (.putfield 285, 3) := by decide +kernel
theorem dX12_laysRectangle_92 : decode cX12_laysRectangle 92 = .ok (.aload_n 0, 1) := by decide +kernel
theorem dX12_laysRectangle_93 : decode cX12_laysRectangle 93 = .ok (.iload_n 1, 1) := by decide +kernel
theorem dX12_laysRectangle_94 : decode cX12_laysRectangle 94 = .ok (.putfield 288, 3) := by decide +kernel
theorem dX12_laysRectangle_97 : decode cX12_laysRectangle 97 = .ok (.aload_n 0, 1) := by decide +kernel
theorem dX12_laysRectangle_98 : decode cX12_laysRectangle 98 = .ok (.iload_n 3, 1) := by decide +kernel
theorem dX12_laysRectangle_99 : decode cX12_laysRectangle 99 = .ok (.putfield 291, 3) := by decide +kernel
theorem dX12_laysRectangle_102 : decode cX12_laysRectangle 102 = .ok (.iinc 3 1, 3) := by decide +kernel
theorem dX12_laysRectangle_105 : decode cX12_laysRectangle 105 = .ok (.goto (-86), 3) := by decide +kernel
theorem dX12_laysRectangle_108 : decode cX12_laysRectangle 108 = .ok (.iinc 1 1, 3) := by decide +kernel
theorem dX12_laysRectangle_111 : decode cX12_laysRectangle 111 = .ok (.goto (-104), 3) := by decide +kernel
theorem dX12_laysRectangle_114 : decode cX12_laysRectangle 114 = .ok (.return_, 1) := by decide +kernel
theorem wX12_laysRectangle : Mw yX12_laysRectangle cX12_laysRectangle 5 none 0 := ⟨q_1596, q_130, by decide, ⟨by decide +kernel, by decide +kernel⟩, by decide +kernel, by decide +kernel⟩
-- a loop of EyeTrainerModel.laysRectangle at 7
-- a loop of EyeTrainerModel.laysRectangle at 19
def bX12_laysRectangle_19 (T : Sh) (x0 : Nat) (x1 : Int32) (x2 : Int32) (x3 : Int32) (M : Me) : Option ((Int32 × Int32 × Me) ⊕ (Me)) :=
  if (16 : Int32) ≤ x3 then (some (.inr M)) else (gd (kd T x0 = 11) <| Option.bind (gR M x0 20) fun a6 => gd (kd T a6 = 13) <| gv x3 (ln T a6) <| lt (x2 &&& (gI M a6 (Int32.toNatClampNeg x3))) fun v9 => Option.bind (fX12_longestIn T M x0 v9) <| un2 fun r10 M11 => if (gI M11 x0 21) < (r10 * ((x3 - x1) + (1 : Int32))) then (lt (pI M11 x0 21 (r10 * ((x3 - x1) + (1 : Int32)))) fun M13 => lt (pI M13 x0 22 (gI M13 x0 28)) fun M14 => lt (pI M14 x0 23 (((gI M14 x0 28) + r10) - (1 : Int32))) fun M15 => lt (pI M15 x0 24 x1) fun M16 => lt (pI M16 x0 25 x3) fun M17 => lt (x3 + (1 : Int32)) fun v18 => some (.inl (v9, v18, M17))) else (lt (x3 + (1 : Int32)) fun v19 => some (.inl (v9, v19, M11))))
def PX12_laysRectangle_19 (X : Fx) (B : Bx) (Z : Nat × Nat × Nat × Nat) (Q : State → Prop) (T : Sh) (x0 : Nat) (x1 : Int32) (s : Int32 × Int32 × Me) : Prop := G X B 5 Z Q 19 [(0, .ref (x0)), (1, .int (x1)), (2, .int (s.1)), (3, .int (s.2.1))] [] T s.2.2
def EX12_laysRectangle_19 (X : Fx) (B : Bx) (Z : Nat × Nat × Nat × Nat) (Q : State → Prop) (T : Sh) (x0 : Nat) (x1 : Int32) (r : Me) : Prop := G X B 5 Z Q 108 [(0, .ref (x0)), (1, .int (x1))] [] T r
set_option maxHeartbeats 4000000 in
theorem tbX12_laysRectangle_19 {X : Fx} {B : Bx} {Z : Nat × Nat × Nat × Nat} {Q : State → Prop} {d : Nat} {T : Sh} (C : Cx X B cX12_laysRectangle 5 RX12 d Z) (hd : 2 ≤ d) {x0 : Nat} {x1 : Int32} : ∀ (s : Int32 × Int32 × Me) (o : (Int32 × Int32 × Me) ⊕ (Me)), bX12_laysRectangle_19 T x0 x1 s.1 s.2.1 s.2.2 = some o → lpE (PX12_laysRectangle_19 X B Z Q T x0 x1) (EX12_laysRectangle_19 X B Z Q T x0 x1) o → PX12_laysRectangle_19 X B Z Q T x0 x1 s := by
  rintro ⟨x2, x3, M⟩ o h hE
  replace h : bX12_laysRectangle_19 T x0 x1 x2 x3 M = some o := h
  unfold bX12_laysRectangle_19 at h
  show G X B 5 Z Q 19 [(0, .ref (x0)), (1, .int (x1)), (2, .int (x2)), (3, .int (x3))] [] T M
  refine g_iload_n (pc := 19) C dX12_laysRectangle_19 rfl 3 rfl ?_
  refine g_bipush (pc := 20) (v := 16) C dX12_laysRectangle_20 (by decide) ?_
  refine g_icmp_ge (pc := 22) (tgt := 108) C dX12_laysRectangle_22 (by decide) (fun c4 => ?_) (fun c4 => ?_)
  · replace h := ifp c4 h
    obtain rfl := Option.some.inj h
    exact g_sub [0, 1] rfl (show G X B 5 Z Q 108 [(0, .ref (x0)), (1, .int (x1))] [] T M from hE)
  · replace h := ifn c4 h
    refine g_iload_n (pc := 25) C dX12_laysRectangle_25 rfl 2 rfl ?_
    refine g_aload_n (pc := 26) C dX12_laysRectangle_26 rfl 0 rfl ?_
    replace h := gd_some h; obtain ⟨hk5, h⟩ := h
    refine g_get (pc := 27) (v := va_rf (gR M x0 20)) C dX12_laysRectangle_27 kX12 hk5 20 (by decide) q_1247 rfl ?_
    replace h := bnd h; obtain ⟨a6, ea6, h⟩ := h
    refine g_refq ea6 ?_
    refine g_iload_n (pc := 30) C dX12_laysRectangle_30 rfl 3 rfl ?_
    replace h := gd_some h; obtain ⟨hk7, h⟩ := h
    replace h := gv_some h; obtain ⟨hi8, h⟩ := h
    refine g_iald (pc := 31) C dX12_laysRectangle_31 hk7 hi8 ?_
    refine g_iand (pc := 32) C dX12_laysRectangle_32 ?_
    refine g_topi (fun v9 ev9 => ?_)
    replace h := lt_at ev9 h
    refine g_istore_n (pc := 33) (lo2 := [(2, .int (v9)), (0, .ref (x0)), (1, .int (x1)), (3, .int (x3))]) C dX12_laysRectangle_33 rfl (by decide) rfl ?_
    refine g_aload_n (pc := 34) C dX12_laysRectangle_34 rfl 1 rfl ?_
    refine g_iload_n (pc := 35) C dX12_laysRectangle_35 rfl 0 rfl ?_
    replace h := bnd2 h; obtain ⟨r10, M11, h1, h⟩ := h
    refine g_callVi (pc := 36) (As := [.int (v9)]) (st := []) C dX12_laysRectangle_36 wX12_longestIn hk5 rfl (by decide) q_1600 q_92 q_1598 (by omega) rfl (Nat.le_of_ble_eq_true rfl) (kX12_longestIn (d := 1) (Nat.le_refl _) h1) ?_
    refine g_istore (pc := 39) (lo2 := [(4, .int (r10)), (2, .int (v9)), (0, .ref (x0)), (1, .int (x1)), (3, .int (x3))]) C dX12_laysRectangle_39 (by decide) rfl ?_
    refine g_iload (pc := 41) C dX12_laysRectangle_41 0 rfl ?_
    refine g_iload_n (pc := 43) C dX12_laysRectangle_43 rfl 4 rfl ?_
    refine g_iload_n (pc := 44) C dX12_laysRectangle_44 rfl 3 rfl ?_
    refine g_isub (pc := 45) C dX12_laysRectangle_45 ?_
    refine g_iconst (pc := 46) (v := 1) C dX12_laysRectangle_46 (by decide) ?_
    refine g_iadd (pc := 47) C dX12_laysRectangle_47 ?_
    refine g_imul (pc := 48) C dX12_laysRectangle_48 ?_
    refine g_aload_n (pc := 49) C dX12_laysRectangle_49 rfl 2 rfl ?_
    refine g_get (pc := 50) (v := .int (gI M11 x0 21)) C dX12_laysRectangle_50 kX12 hk5 21 (by decide) q_1248 rfl ?_
    refine g_icmp_gt (pc := 53) (tgt := 59) C dX12_laysRectangle_53 (by decide) (fun c12 => ?_) (fun c12 => ?_)
    · replace h := ifp c12 h
      refine g_aload_n (pc := 59) C dX12_laysRectangle_59 rfl 2 rfl ?_
      refine g_iload (pc := 60) C dX12_laysRectangle_60 0 rfl ?_
      refine g_iload_n (pc := 62) C dX12_laysRectangle_62 rfl 4 rfl ?_
      refine g_iload_n (pc := 63) C dX12_laysRectangle_63 rfl 3 rfl ?_
      refine g_isub (pc := 64) C dX12_laysRectangle_64 ?_
      refine g_iconst (pc := 65) (v := 1) C dX12_laysRectangle_65 (by decide) ?_
      refine g_iadd (pc := 66) C dX12_laysRectangle_66 ?_
      refine g_imul (pc := 67) C dX12_laysRectangle_67 ?_
      refine g_putI (pc := 68) C dX12_laysRectangle_68 kX12 hk5 21 (by decide) rfl rfl rfl q_1248 ?_
      refine g_mem (fun M13 eM13 => ?_)
      replace h := lt_at eM13 h
      refine g_aload_n (pc := 71) C dX12_laysRectangle_71 rfl 2 rfl ?_
      refine g_aload_n (pc := 72) C dX12_laysRectangle_72 rfl 2 rfl ?_
      refine g_get (pc := 73) (v := .int (gI M13 x0 28)) C dX12_laysRectangle_73 kX12 hk5 28 (by decide) q_1255 rfl ?_
      refine g_putI (pc := 76) C dX12_laysRectangle_76 kX12 hk5 22 (by decide) rfl rfl rfl q_1249 ?_
      refine g_mem (fun M14 eM14 => ?_)
      replace h := lt_at eM14 h
      refine g_aload_n (pc := 79) C dX12_laysRectangle_79 rfl 2 rfl ?_
      refine g_aload_n (pc := 80) C dX12_laysRectangle_80 rfl 2 rfl ?_
      refine g_get (pc := 81) (v := .int (gI M14 x0 28)) C dX12_laysRectangle_81 kX12 hk5 28 (by decide) q_1255 rfl ?_
      refine g_iload (pc := 84) C dX12_laysRectangle_84 0 rfl ?_
      refine g_iadd (pc := 86) C dX12_laysRectangle_86 ?_
      refine g_iconst (pc := 87) (v := 1) C dX12_laysRectangle_87 (by decide) ?_
      refine g_isub (pc := 88) C dX12_laysRectangle_88 ?_
      refine g_putI (pc := 89) C dX12_laysRectangle_89 kX12 hk5 23 (by decide) rfl rfl rfl q_1250 ?_
      refine g_mem (fun M15 eM15 => ?_)
      replace h := lt_at eM15 h
      refine g_aload_n (pc := 92) C dX12_laysRectangle_92 rfl 2 rfl ?_
      refine g_iload_n (pc := 93) C dX12_laysRectangle_93 rfl 3 rfl ?_
      refine g_putI (pc := 94) C dX12_laysRectangle_94 kX12 hk5 24 (by decide) rfl rfl rfl q_1251 ?_
      refine g_mem (fun M16 eM16 => ?_)
      replace h := lt_at eM16 h
      refine g_aload_n (pc := 97) C dX12_laysRectangle_97 rfl 2 rfl ?_
      refine g_iload_n (pc := 98) C dX12_laysRectangle_98 rfl 4 rfl ?_
      refine g_putI (pc := 99) C dX12_laysRectangle_99 kX12 hk5 25 (by decide) rfl rfl rfl q_1252 ?_
      refine g_mem (fun M17 eM17 => ?_)
      replace h := lt_at eM17 h
      obtain ⟨v18, ev18⟩ : ∃ y : Int32, y = x3 + (1 : Int32) := ⟨_, rfl⟩
      replace h := lt_at ev18 h
      refine g_iinc (pc := 102) (v := v18) (k := 4) (lo2 := [(3, .int (v18)), (4, .int (r10)), (2, .int (v9)), (0, .ref (x0)), (1, .int (x1))]) C dX12_laysRectangle_102 rfl (by rw [ev18]; rfl) (by decide) rfl ?_
      refine g_goto (pc := 105) (tgt := 19) C dX12_laysRectangle_105 (by decide) ?_
      obtain rfl := Option.some.inj h
      exact g_sub [3, 4, 2, 0] rfl (show G X B 5 Z Q 19 [(0, .ref (x0)), (1, .int (x1)), (2, .int (v9)), (3, .int (v18))] [] T M17 from hE)
    · replace h := ifn c12 h
      refine g_goto (pc := 56) (tgt := 102) C dX12_laysRectangle_56 (by decide) ?_
      obtain ⟨v19, ev19⟩ : ∃ y : Int32, y = x3 + (1 : Int32) := ⟨_, rfl⟩
      replace h := lt_at ev19 h
      refine g_iinc (pc := 102) (v := v19) (k := 4) (lo2 := [(3, .int (v19)), (4, .int (r10)), (2, .int (v9)), (0, .ref (x0)), (1, .int (x1))]) C dX12_laysRectangle_102 rfl (by rw [ev19]; rfl) (by decide) rfl ?_
      refine g_goto (pc := 105) (tgt := 19) C dX12_laysRectangle_105 (by decide) ?_
      obtain rfl := Option.some.inj h
      exact g_sub [3, 4, 2, 0] rfl (show G X B 5 Z Q 19 [(0, .ref (x0)), (1, .int (x1)), (2, .int (v9)), (3, .int (v19))] [] T M11 from hE)
def bX12_laysRectangle_7 (T : Sh) (x0 : Nat) (x1 : Int32) (M : Me) : Option ((Int32 × Me) ⊕ (Me)) :=
  if (16 : Int32) ≤ x1 then (some (.inr M)) else ((lp FU (fun s => bX12_laysRectangle_19 T x0 x1 s.1 s.2.1 s.2.2) ((16777215 : Int32), x1, M)).bind (fun M20 => lt (x1 + (1 : Int32)) fun v21 => some (.inl (v21, M20))))
def PX12_laysRectangle_7 (X : Fx) (B : Bx) (Z : Nat × Nat × Nat × Nat) (Q : State → Prop) (T : Sh) (x0 : Nat) (s : Int32 × Me) : Prop := G X B 5 Z Q 7 [(0, .ref (x0)), (1, .int (s.1))] [] T s.2
def EX12_laysRectangle_7 (X : Fx) (B : Bx) (Z : Nat × Nat × Nat × Nat) (Q : State → Prop) (T : Sh) (x0 : Nat) (r : Me) : Prop := G X B 5 Z Q 114 [] [] T r
set_option maxHeartbeats 4000000 in
theorem tbX12_laysRectangle_7 {X : Fx} {B : Bx} {Z : Nat × Nat × Nat × Nat} {Q : State → Prop} {d : Nat} {T : Sh} (C : Cx X B cX12_laysRectangle 5 RX12 d Z) (hd : 2 ≤ d) {x0 : Nat} : ∀ (s : Int32 × Me) (o : (Int32 × Me) ⊕ (Me)), bX12_laysRectangle_7 T x0 s.1 s.2 = some o → lpE (PX12_laysRectangle_7 X B Z Q T x0) (EX12_laysRectangle_7 X B Z Q T x0) o → PX12_laysRectangle_7 X B Z Q T x0 s := by
  rintro ⟨x1, M⟩ o h hE
  replace h : bX12_laysRectangle_7 T x0 x1 M = some o := h
  unfold bX12_laysRectangle_7 at h
  show G X B 5 Z Q 7 [(0, .ref (x0)), (1, .int (x1))] [] T M
  refine g_iload_n (pc := 7) C dX12_laysRectangle_7 rfl 1 rfl ?_
  refine g_bipush (pc := 8) (v := 16) C dX12_laysRectangle_8 (by decide) ?_
  refine g_icmp_ge (pc := 10) (tgt := 114) C dX12_laysRectangle_10 (by decide) (fun c3 => ?_) (fun c3 => ?_)
  · replace h := ifp c3 h
    obtain rfl := Option.some.inj h
    exact g_sub [] rfl (show G X B 5 Z Q 114 [] [] T M from hE)
  · replace h := ifn c3 h
    refine g_ldcw (pc := 13) C dX12_laysRectangle_13 q_1597 ?_
    refine g_istore_n (pc := 16) (lo2 := [(2, .int ((16777215 : Int32))), (0, .ref (x0)), (1, .int (x1))]) C dX12_laysRectangle_16 rfl (by decide) rfl ?_
    refine g_iload_n (pc := 17) C dX12_laysRectangle_17 rfl 2 rfl ?_
    refine g_istore_n (pc := 18) (lo2 := [(3, .int (x1)), (2, .int ((16777215 : Int32))), (0, .ref (x0)), (1, .int (x1))]) C dX12_laysRectangle_18 rfl (by decide) rfl ?_
    replace h := bnd h; obtain ⟨M20, h1, h⟩ := h
    refine g_sub [2, 3, 1, 0] rfl ?_
    refine lp_G2 (P := PX12_laysRectangle_19 X B _ _ T x0 x1) (E := EX12_laysRectangle_19 X B _ _ T x0 x1) (tbX12_laysRectangle_19 C hd) h1 ?_
    show G X B 5 _ _ 108 [(0, .ref (x0)), (1, .int (x1))] [] T M20
    obtain ⟨v21, ev21⟩ : ∃ y : Int32, y = x1 + (1 : Int32) := ⟨_, rfl⟩
    replace h := lt_at ev21 h
    refine g_iinc (pc := 108) (v := v21) (k := 1) (lo2 := [(1, .int (v21)), (0, .ref (x0))]) C dX12_laysRectangle_108 rfl (by rw [ev21]; rfl) (by decide) rfl ?_
    refine g_goto (pc := 111) (tgt := 7) C dX12_laysRectangle_111 (by decide) ?_
    obtain rfl := Option.some.inj h
    exact g_sub [1, 0] rfl (show G X B 5 Z Q 7 [(0, .ref (x0)), (1, .int (v21))] [] T M20 from hE)
/-- EyeTrainerModel.laysRectangle()V -/
def fX12_laysRectangle (T : Sh) (M : Me) (x0 : Nat) : Option (Unit × Me) :=
  gd (kd T x0 = 11) <| lt (pI M x0 21 (0 : Int32)) fun M2 => (lp FU (fun s => bX12_laysRectangle_7 T x0 s.1 s.2) ((0 : Int32), M2)).bind (fun M22 => some ((), M22))
set_option maxHeartbeats 4000000 in
theorem kX12_laysRectangle {l : Launch} {B : Bx} {d : Nat} (hd : 2 ≤ d) {T : Sh} {M : Me} {x0 : Nat} {M' : Me} (h : fX12_laysRectangle T M x0 = some ((), M')) : Kt l B yX12_laysRectangle cX12_laysRectangle 5 none d [.ref (x0)] T M none T M' := by
  refine kt_of wX12_laysRectangle (Nat.le_refl _) (Nat.le_refl _) (Nat.le_of_ble_eq_true rfl) (fun X C hR hlx hin => ?_)
  subst hlx
  replace C : Cx X B cX12_laysRectangle 5 RX12 d (tp T, sl T, tp T, sl T) := C
  unfold fX12_laysRectangle at h
  show G X B 5 _ _ 0 [(0, .ref (x0))] [] T M
  refine g_aload_n (pc := 0) C dX12_laysRectangle_0 rfl 0 rfl ?_
  refine g_iconst (pc := 1) (v := 0) C dX12_laysRectangle_1 (by decide) ?_
  replace h := gd_some h; obtain ⟨hk1, h⟩ := h
  refine g_putI (pc := 2) C dX12_laysRectangle_2 kX12 hk1 21 (by decide) rfl rfl rfl q_1248 ?_
  refine g_mem (fun M2 eM2 => ?_)
  replace h := lt_at eM2 h
  refine g_iconst (pc := 5) (v := 0) C dX12_laysRectangle_5 (by decide) ?_
  refine g_istore_n (pc := 6) (lo2 := [(1, .int ((0 : Int32))), (0, .ref (x0))]) C dX12_laysRectangle_6 rfl (by decide) rfl ?_
  replace h := bnd h; obtain ⟨M22, h1, h⟩ := h
  refine g_sub [1, 0] rfl ?_
  refine lp_G2 (P := PX12_laysRectangle_7 X B _ _ T x0) (E := EX12_laysRectangle_7 X B _ _ T x0) (tbX12_laysRectangle_7 C hd) h1 ?_
  show G X B 5 _ _ 114 [] [] T M22
  obtain ⟨-, rfl⟩ := Prod.mk.inj (Option.some.inj h)
  exact g_vret C hR dX12_laysRectangle_114
theorem dX12_middleNow_0 : decode cX12_middleNow 0 = .ok (.bipush 24, 2) := by decide +kernel
theorem dX12_middleNow_2 : decode cX12_middleNow 2 = .ok (.aload_n 0, 1) := by decide +kernel
theorem dX12_middleNow_3 : decode cX12_middleNow 3 = .ok (.getfield 288, 3) := by decide +kernel
theorem dX12_middleNow_6 : decode cX12_middleNow 6 = .ok (.aload_n 0, 1) := by decide +kernel
theorem dX12_middleNow_7 : decode cX12_middleNow 7 = .ok (.getfield 291, 3) := by decide +kernel
theorem dX12_middleNow_10 : decode cX12_middleNow 10 = .ok (.iadd, 1) := by decide +kernel
theorem dX12_middleNow_11 : decode cX12_middleNow 11 = .ok (.iconst 2, 1) := by decide +kernel
theorem dX12_middleNow_12 : decode cX12_middleNow 12 = .ok (.idiv, 1) := by decide +kernel
theorem dX12_middleNow_13 : decode cX12_middleNow 13 = .ok (.imul, 1) := by decide +kernel
theorem dX12_middleNow_14 : decode cX12_middleNow 14 = .ok (.aload_n 0, 1) := by decide +kernel
theorem dX12_middleNow_15 : decode cX12_middleNow 15 = .ok (.getfield 282, 3) := by decide +kernel
theorem dX12_middleNow_18 : decode cX12_middleNow 18 = .ok (.aload_n 0, 1) := by decide +kernel
theorem dX12_middleNow_19 : decode cX12_middleNow 19 = .ok (.getfield 285, 3) := by decide +kernel
theorem dX12_middleNow_22 : decode cX12_middleNow 22 = .ok (.iadd, 1) := by decide +kernel
theorem dX12_middleNow_23 : decode cX12_middleNow 23 = .ok (.iconst 2, 1) := by decide +kernel
theorem dX12_middleNow_24 : decode cX12_middleNow 24 = .ok (.idiv, 1) := by decide +kernel
theorem dX12_middleNow_25 : decode cX12_middleNow 25 = .ok (.iadd, 1) := by decide +kernel
theorem dX12_middleNow_26 : decode cX12_middleNow 26 = .ok (.ireturn, 1) := by decide +kernel
theorem wX12_middleNow : Mw yX12_middleNow cX12_middleNow 1 (some .int) 0 := ⟨q_1605, q_130, by decide, ⟨by decide +kernel, by decide +kernel⟩, by decide +kernel, by decide +kernel⟩
/-- EyeTrainerModel.middleNow()I -/
def fX12_middleNow (T : Sh) (M : Me) (x0 : Nat) : Option (Int32) :=
  gd (kd T x0 = 11) <| some (((24 : Int32) * (((gI M x0 24) + (gI M x0 25)) / (2 : Int32))) + (((gI M x0 22) + (gI M x0 23)) / (2 : Int32)))
set_option maxHeartbeats 4000000 in
theorem kX12_middleNow {l : Launch} {B : Bx} {d : Nat} (hd : 0 ≤ d) {T : Sh} {M : Me} {x0 : Nat} {r : Int32} (h : fX12_middleNow T M x0 = some r) : Kt l B yX12_middleNow cX12_middleNow 1 (some .int) d [.ref (x0)] T M (some (.int r)) T M := by
  refine kt_of wX12_middleNow (Nat.le_refl _) (Nat.le_refl _) (Nat.le_of_ble_eq_true rfl) (fun X C hR hlx hin => ?_)
  subst hlx
  replace C : Cx X B cX12_middleNow 1 RX12 d (tp T, sl T, tp T, sl T) := C
  unfold fX12_middleNow at h
  show G X B 1 _ _ 0 [(0, .ref (x0))] [] T M
  refine g_bipush (pc := 0) (v := 24) C dX12_middleNow_0 (by decide) ?_
  refine g_aload_n (pc := 2) C dX12_middleNow_2 rfl 0 rfl ?_
  replace h := gd_some h; obtain ⟨hk1, h⟩ := h
  refine g_get (pc := 3) (v := .int (gI M x0 24)) C dX12_middleNow_3 kX12 hk1 24 (by decide) q_1251 rfl ?_
  refine g_aload_n (pc := 6) C dX12_middleNow_6 rfl 0 rfl ?_
  refine g_get (pc := 7) (v := .int (gI M x0 25)) C dX12_middleNow_7 kX12 hk1 25 (by decide) q_1252 rfl ?_
  refine g_iadd (pc := 10) C dX12_middleNow_10 ?_
  refine g_iconst (pc := 11) (v := 2) C dX12_middleNow_11 (by decide) ?_
  refine g_idiv (pc := 12) C dX12_middleNow_12 (by decide) ?_
  refine g_imul (pc := 13) C dX12_middleNow_13 ?_
  refine g_aload_n (pc := 14) C dX12_middleNow_14 rfl 0 rfl ?_
  refine g_get (pc := 15) (v := .int (gI M x0 22)) C dX12_middleNow_15 kX12 hk1 22 (by decide) q_1249 rfl ?_
  refine g_aload_n (pc := 18) C dX12_middleNow_18 rfl 0 rfl ?_
  refine g_get (pc := 19) (v := .int (gI M x0 23)) C dX12_middleNow_19 kX12 hk1 23 (by decide) q_1250 rfl ?_
  refine g_iadd (pc := 22) C dX12_middleNow_22 ?_
  refine g_iconst (pc := 23) (v := 2) C dX12_middleNow_23 (by decide) ?_
  refine g_idiv (pc := 24) C dX12_middleNow_24 (by decide) ?_
  refine g_iadd (pc := 25) C dX12_middleNow_25 ?_
  obtain rfl := Option.some.inj h
  exact g_iret C hR dX12_middleNow_26
theorem dX12_apartFrom_0 : decode cX12_apartFrom 0 = .ok (.ldc_w 294, 3) := by decide +kernel
theorem dX12_apartFrom_3 : decode cX12_apartFrom 3 = .ok (.istore_n 3, 1) := by decide +kernel
theorem dX12_apartFrom_4 : decode cX12_apartFrom 4 = .ok (.iconst (-1), 1) := by decide +kernel
theorem dX12_apartFrom_5 : decode cX12_apartFrom 5 = .ok (.istore 4, 2) := by decide +kernel
theorem dX12_apartFrom_7 : decode cX12_apartFrom 7 = .ok (.iload 4, 2) := by decide +kernel
theorem dX12_apartFrom_9 : decode cX12_apartFrom 9 = .ok (.bipush 16, 2) := by decide +kernel
theorem dX12_apartFrom_11 : decode cX12_apartFrom 11 = .ok (.if_icmp .gt 73, 3) := by decide +kernel
theorem dX12_apartFrom_14 : decode cX12_apartFrom 14 = .ok (.iconst (-1), 1) := by decide +kernel
theorem dX12_apartFrom_15 : decode cX12_apartFrom 15 = .ok (.istore 5, 2) := by decide +kernel
theorem dX12_apartFrom_17 : decode cX12_apartFrom 17 = .ok (.iload 5, 2) := by decide +kernel
theorem dX12_apartFrom_19 : decode cX12_apartFrom 19 = .ok (.bipush 24, 2) := by decide +kernel
theorem dX12_apartFrom_21 : decode cX12_apartFrom 21 = .ok (.if_icmp .gt 57, 3) := by decide +kernel
theorem dX12_apartFrom_24 : decode cX12_apartFrom 24 = .ok (.iload 5, 2) := by decide +kernel
theorem dX12_apartFrom_26 : decode cX12_apartFrom 26 = .ok (.iload_n 1, 1) := by decide +kernel
theorem dX12_apartFrom_27 : decode cX12_apartFrom 27 = .ok (.isub, 1) := by decide +kernel
theorem dX12_apartFrom_28 : decode cX12_apartFrom 28 = .ok (.iload 5, 2) := by decide +kernel
theorem dX12_apartFrom_30 : decode cX12_apartFrom 30 = .ok (.iload_n 1, 1) := by decide +kernel
theorem dX12_apartFrom_31 : decode cX12_apartFrom 31 = .ok (.isub, 1) := by decide +kernel
theorem dX12_apartFrom_32 : decode cX12_apartFrom 32 = .ok (.imul, 1) := by decide +kernel
theorem dX12_apartFrom_33 : decode cX12_apartFrom 33 = .ok (.aload_n 0, 1) := by decide +kernel
theorem dX12_apartFrom_34 : decode cX12_apartFrom 34 = .ok (.getfield 13, 3) := by decide +kernel
theorem dX12_apartFrom_37 : decode cX12_apartFrom 37 = .ok (.iconst 1, 1) := by decide +kernel
theorem dX12_apartFrom_38 : decode cX12_apartFrom 38 = .ok (.iaload, 1) := by decide +kernel
theorem dX12_apartFrom_39 : decode cX12_apartFrom 39 = .ok (.iload 4, 2) := by decide +kernel
theorem dX12_apartFrom_41 : decode cX12_apartFrom 41 = .ok (.iload_n 2, 1) := by decide +kernel
theorem dX12_apartFrom_42 : decode cX12_apartFrom 42 = .ok (.isub, 1) := by decide +kernel
theorem dX12_apartFrom_43 : decode cX12_apartFrom 43 = .ok (.imul, 1) := by decide +kernel
theorem dX12_apartFrom_44 : decode cX12_apartFrom 44 = .ok (.iload 4, 2) := by decide +kernel
theorem dX12_apartFrom_46 : decode cX12_apartFrom 46 = .ok (.iload_n 2, 1) := by decide +kernel
theorem dX12_apartFrom_47 : decode cX12_apartFrom 47 = .ok (.isub, 1) := by decide +kernel
theorem dX12_apartFrom_48 : decode cX12_apartFrom 48 = .ok (.imul, 1) := by decide +kernel
theorem dX12_apartFrom_49 : decode cX12_apartFrom 49 = .ok (.iadd, 1) := by decide +kernel
theorem dX12_apartFrom_50 : decode cX12_apartFrom 50 = .ok (.istore 6, 2) := by decide +kernel
theorem dX12_apartFrom_52 : decode cX12_apartFrom 52 = .ok (.iload 6, 2) := by decide +kernel
theorem dX12_apartFrom_54 : decode cX12_apartFrom 54 = .ok (.iload_n 3, 1) := by decide +kernel
theorem dX12_apartFrom_55 : decode cX12_apartFrom 55 = .ok (.if_icmp .ge 17, 3) := by decide +kernel
theorem dX12_apartFrom_58 : decode cX12_apartFrom 58 = .ok (.aload_n 0, 1) := by decide +kernel
theorem dX12_apartFrom_59 : decode cX12_apartFrom 59 = .ok (.iload 5, 2) := by decide +kernel
theorem dX12_apartFrom_61 : decode cX12_apartFrom 61 = .ok (.iload 4, 2) := by decide +kernel
theorem dX12_apartFrom_63 : decode cX12_apartFrom 63 = .ok (.invokevirtual 295, 3) := by decide +kernel
theorem dX12_apartFrom_66 : decode cX12_apartFrom 66 = .ok (.ifCond .ne 6, 3) := by decide +kernel
theorem dX12_apartFrom_69 : decode cX12_apartFrom 69 = .ok (.iload 6, 2) := by decide +kernel
theorem dX12_apartFrom_71 : decode cX12_apartFrom 71 = .ok (.istore_n 3, 1) := by decide +kernel
theorem dX12_apartFrom_72 : decode cX12_apartFrom 72 = .ok (.iinc 5 1, 3) := by decide +kernel
theorem dX12_apartFrom_75 : decode cX12_apartFrom 75 = .ok (.goto (-58), 3) := by decide +kernel
theorem dX12_apartFrom_78 : decode cX12_apartFrom 78 = .ok (.iinc 4 1, 3) := by decide +kernel
theorem dX12_apartFrom_81 : decode cX12_apartFrom 81 = .ok (.goto (-74), 3) := by decide +kernel
theorem dX12_apartFrom_84 : decode cX12_apartFrom 84 = .ok (.iload_n 3, 1) := by decide +kernel
theorem dX12_apartFrom_85 : decode cX12_apartFrom 85 = .ok (.ireturn, 1) := by decide +kernel
theorem wX12_apartFrom : Mw yX12_apartFrom cX12_apartFrom 7 (some .int) 2 := ⟨q_1618, q_130, by decide, ⟨by decide +kernel, by decide +kernel⟩, by decide +kernel, by decide +kernel⟩
-- a loop of EyeTrainerModel.apartFrom at 7
-- a loop of EyeTrainerModel.apartFrom at 17
def bX12_apartFrom_17 (T : Sh) (M : Me) (x0 : Nat) (x1 : Int32) (x2 : Int32) (x4 : Int32) (x3 : Int32) (x5 : Int32) : Option ((Int32 × Int32) ⊕ (Int32)) :=
  if (24 : Int32) < x5 then (some (.inr x3)) else (gd (kd T x0 = 11) <| Option.bind (gR M x0 1) fun a4 => gd (kd T a4 = 13) <| gv (1 : Int32) (ln T a4) <| lt (((x5 - x1) * (x5 - x1)) + (((gI M a4 (Int32.toNatClampNeg (1 : Int32))) * (x4 - x2)) * (x4 - x2))) fun v7 => if x3 ≤ v7 then (lt (x5 + (1 : Int32)) fun v9 => some (.inl (x3, v9))) else (Option.bind (fX12_isMapped T M x0 x5 x4) fun r10 => if r10 = 0 then (lt (x5 + (1 : Int32)) fun v13 => some (.inl (v7, v13))) else (lt (x5 + (1 : Int32)) fun v12 => some (.inl (x3, v12)))))
def PX12_apartFrom_17 (X : Fx) (B : Bx) (Z : Nat × Nat × Nat × Nat) (Q : State → Prop) (T : Sh) (M : Me) (x0 : Nat) (x1 : Int32) (x2 : Int32) (x4 : Int32) (s : Int32 × Int32) : Prop := G X B 7 Z Q 17 [(0, .ref (x0)), (1, .int (x1)), (2, .int (x2)), (3, .int (s.1)), (4, .int (x4)), (5, .int (s.2))] [] T M
def EX12_apartFrom_17 (X : Fx) (B : Bx) (Z : Nat × Nat × Nat × Nat) (Q : State → Prop) (T : Sh) (M : Me) (x0 : Nat) (x1 : Int32) (x2 : Int32) (x4 : Int32) (r : Int32) : Prop := G X B 7 Z Q 78 [(0, .ref (x0)), (1, .int (x1)), (2, .int (x2)), (3, .int (r)), (4, .int (x4))] [] T M
set_option maxHeartbeats 4000000 in
theorem tbX12_apartFrom_17 {X : Fx} {B : Bx} {Z : Nat × Nat × Nat × Nat} {Q : State → Prop} {d : Nat} {T : Sh} {M : Me} (C : Cx X B cX12_apartFrom 7 RX12 d Z) (hd : 2 ≤ d) {x0 : Nat} {x1 : Int32} {x2 : Int32} {x4 : Int32} : ∀ (s : Int32 × Int32) (o : (Int32 × Int32) ⊕ (Int32)), bX12_apartFrom_17 T M x0 x1 x2 x4 s.1 s.2 = some o → lpE (PX12_apartFrom_17 X B Z Q T M x0 x1 x2 x4) (EX12_apartFrom_17 X B Z Q T M x0 x1 x2 x4) o → PX12_apartFrom_17 X B Z Q T M x0 x1 x2 x4 s := by
  rintro ⟨x3, x5⟩ o h hE
  replace h : bX12_apartFrom_17 T M x0 x1 x2 x4 x3 x5 = some o := h
  unfold bX12_apartFrom_17 at h
  show G X B 7 Z Q 17 [(0, .ref (x0)), (1, .int (x1)), (2, .int (x2)), (3, .int (x3)), (4, .int (x4)), (5, .int (x5))] [] T M
  refine g_iload (pc := 17) C dX12_apartFrom_17 5 rfl ?_
  refine g_bipush (pc := 19) (v := 24) C dX12_apartFrom_19 (by decide) ?_
  refine g_icmp_gt (pc := 21) (tgt := 78) C dX12_apartFrom_21 (by decide) (fun c2 => ?_) (fun c2 => ?_)
  · replace h := ifp c2 h
    obtain rfl := Option.some.inj h
    exact g_sub [0, 1, 2, 3, 4] rfl (show G X B 7 Z Q 78 [(0, .ref (x0)), (1, .int (x1)), (2, .int (x2)), (3, .int (x3)), (4, .int (x4))] [] T M from hE)
  · replace h := ifn c2 h
    refine g_iload (pc := 24) C dX12_apartFrom_24 5 rfl ?_
    refine g_iload_n (pc := 26) C dX12_apartFrom_26 rfl 1 rfl ?_
    refine g_isub (pc := 27) C dX12_apartFrom_27 ?_
    refine g_iload (pc := 28) C dX12_apartFrom_28 5 rfl ?_
    refine g_iload_n (pc := 30) C dX12_apartFrom_30 rfl 1 rfl ?_
    refine g_isub (pc := 31) C dX12_apartFrom_31 ?_
    refine g_imul (pc := 32) C dX12_apartFrom_32 ?_
    refine g_aload_n (pc := 33) C dX12_apartFrom_33 rfl 0 rfl ?_
    replace h := gd_some h; obtain ⟨hk3, h⟩ := h
    refine g_get (pc := 34) (v := va_rf (gR M x0 1)) C dX12_apartFrom_34 kX12 hk3 1 (by decide) q_1228 rfl ?_
    replace h := bnd h; obtain ⟨a4, ea4, h⟩ := h
    refine g_refq ea4 ?_
    refine g_iconst (pc := 37) (v := 1) C dX12_apartFrom_37 (by decide) ?_
    replace h := gd_some h; obtain ⟨hk5, h⟩ := h
    replace h := gv_some h; obtain ⟨hi6, h⟩ := h
    refine g_iald (pc := 38) C dX12_apartFrom_38 hk5 hi6 ?_
    refine g_iload (pc := 39) C dX12_apartFrom_39 4 rfl ?_
    refine g_iload_n (pc := 41) C dX12_apartFrom_41 rfl 2 rfl ?_
    refine g_isub (pc := 42) C dX12_apartFrom_42 ?_
    refine g_imul (pc := 43) C dX12_apartFrom_43 ?_
    refine g_iload (pc := 44) C dX12_apartFrom_44 4 rfl ?_
    refine g_iload_n (pc := 46) C dX12_apartFrom_46 rfl 2 rfl ?_
    refine g_isub (pc := 47) C dX12_apartFrom_47 ?_
    refine g_imul (pc := 48) C dX12_apartFrom_48 ?_
    refine g_iadd (pc := 49) C dX12_apartFrom_49 ?_
    refine g_topi (fun v7 ev7 => ?_)
    replace h := lt_at ev7 h
    refine g_istore (pc := 50) (lo2 := [(6, .int (v7)), (0, .ref (x0)), (1, .int (x1)), (2, .int (x2)), (3, .int (x3)), (4, .int (x4)), (5, .int (x5))]) C dX12_apartFrom_50 (by decide) rfl ?_
    refine g_iload (pc := 52) C dX12_apartFrom_52 0 rfl ?_
    refine g_iload_n (pc := 54) C dX12_apartFrom_54 rfl 4 rfl ?_
    refine g_icmp_ge (pc := 55) (tgt := 72) C dX12_apartFrom_55 (by decide) (fun c8 => ?_) (fun c8 => ?_)
    · replace h := ifp c8 h
      obtain ⟨v9, ev9⟩ : ∃ y : Int32, y = x5 + (1 : Int32) := ⟨_, rfl⟩
      replace h := lt_at ev9 h
      refine g_iinc (pc := 72) (v := v9) (k := 6) (lo2 := [(5, .int (v9)), (6, .int (v7)), (0, .ref (x0)), (1, .int (x1)), (2, .int (x2)), (3, .int (x3)), (4, .int (x4))]) C dX12_apartFrom_72 rfl (by rw [ev9]; rfl) (by decide) rfl ?_
      refine g_goto (pc := 75) (tgt := 17) C dX12_apartFrom_75 (by decide) ?_
      obtain rfl := Option.some.inj h
      exact g_sub [2, 3, 4, 5, 6, 0] rfl (show G X B 7 Z Q 17 [(0, .ref (x0)), (1, .int (x1)), (2, .int (x2)), (3, .int (x3)), (4, .int (x4)), (5, .int (v9))] [] T M from hE)
    · replace h := ifn c8 h
      refine g_aload_n (pc := 58) C dX12_apartFrom_58 rfl 1 rfl ?_
      refine g_iload (pc := 59) C dX12_apartFrom_59 6 rfl ?_
      refine g_iload (pc := 61) C dX12_apartFrom_61 5 rfl ?_
      replace h := bnd h; obtain ⟨r10, h1, h⟩ := h
      refine g_callVi (pc := 63) (As := [.int (x5), .int (x4)]) (st := []) C dX12_apartFrom_63 wX12_isMapped hk3 rfl (by decide) q_1612 q_95 q_1610 (by omega) rfl (Nat.le_of_ble_eq_true rfl) (kX12_isMapped (d := 1) (Nat.le_refl _) h1) ?_
      refine g_if_ne (pc := 66) (tgt := 72) C dX12_apartFrom_66 (by decide) (fun c11 => ?_) (fun c11 => ?_)
      · replace h := ifn c11 h
        obtain ⟨v12, ev12⟩ : ∃ y : Int32, y = x5 + (1 : Int32) := ⟨_, rfl⟩
        replace h := lt_at ev12 h
        refine g_iinc (pc := 72) (v := v12) (k := 6) (lo2 := [(5, .int (v12)), (6, .int (v7)), (0, .ref (x0)), (1, .int (x1)), (2, .int (x2)), (3, .int (x3)), (4, .int (x4))]) C dX12_apartFrom_72 rfl (by rw [ev12]; rfl) (by decide) rfl ?_
        refine g_goto (pc := 75) (tgt := 17) C dX12_apartFrom_75 (by decide) ?_
        obtain rfl := Option.some.inj h
        exact g_sub [2, 3, 4, 5, 6, 0] rfl (show G X B 7 Z Q 17 [(0, .ref (x0)), (1, .int (x1)), (2, .int (x2)), (3, .int (x3)), (4, .int (x4)), (5, .int (v12))] [] T M from hE)
      · replace h := ifp c11 h
        refine g_iload (pc := 69) C dX12_apartFrom_69 0 rfl ?_
        refine g_istore_n (pc := 71) (lo2 := [(3, .int (v7)), (6, .int (v7)), (0, .ref (x0)), (1, .int (x1)), (2, .int (x2)), (4, .int (x4)), (5, .int (x5))]) C dX12_apartFrom_71 rfl (by decide) rfl ?_
        obtain ⟨v13, ev13⟩ : ∃ y : Int32, y = x5 + (1 : Int32) := ⟨_, rfl⟩
        replace h := lt_at ev13 h
        refine g_iinc (pc := 72) (v := v13) (k := 6) (lo2 := [(5, .int (v13)), (3, .int (v7)), (6, .int (v7)), (0, .ref (x0)), (1, .int (x1)), (2, .int (x2)), (4, .int (x4))]) C dX12_apartFrom_72 rfl (by rw [ev13]; rfl) (by decide) rfl ?_
        refine g_goto (pc := 75) (tgt := 17) C dX12_apartFrom_75 (by decide) ?_
        obtain rfl := Option.some.inj h
        exact g_sub [3, 4, 5, 1, 6, 0] rfl (show G X B 7 Z Q 17 [(0, .ref (x0)), (1, .int (x1)), (2, .int (x2)), (3, .int (v7)), (4, .int (x4)), (5, .int (v13))] [] T M from hE)
def bX12_apartFrom_7 (T : Sh) (M : Me) (x0 : Nat) (x1 : Int32) (x2 : Int32) (x3 : Int32) (x4 : Int32) : Option ((Int32 × Int32) ⊕ (Int32)) :=
  if (16 : Int32) < x4 then (some (.inr x3)) else ((lp FU (fun s => bX12_apartFrom_17 T M x0 x1 x2 x4 s.1 s.2) (x3, (-1 : Int32))).bind (fun x3_14 => lt (x4 + (1 : Int32)) fun v15 => some (.inl (x3_14, v15))))
def PX12_apartFrom_7 (X : Fx) (B : Bx) (Z : Nat × Nat × Nat × Nat) (Q : State → Prop) (T : Sh) (M : Me) (x0 : Nat) (x1 : Int32) (x2 : Int32) (s : Int32 × Int32) : Prop := G X B 7 Z Q 7 [(0, .ref (x0)), (1, .int (x1)), (2, .int (x2)), (3, .int (s.1)), (4, .int (s.2))] [] T M
def EX12_apartFrom_7 (X : Fx) (B : Bx) (Z : Nat × Nat × Nat × Nat) (Q : State → Prop) (T : Sh) (M : Me) (x0 : Nat) (x1 : Int32) (x2 : Int32) (r : Int32) : Prop := G X B 7 Z Q 84 [(3, .int (r))] [] T M
set_option maxHeartbeats 4000000 in
theorem tbX12_apartFrom_7 {X : Fx} {B : Bx} {Z : Nat × Nat × Nat × Nat} {Q : State → Prop} {d : Nat} {T : Sh} {M : Me} (C : Cx X B cX12_apartFrom 7 RX12 d Z) (hd : 2 ≤ d) {x0 : Nat} {x1 : Int32} {x2 : Int32} : ∀ (s : Int32 × Int32) (o : (Int32 × Int32) ⊕ (Int32)), bX12_apartFrom_7 T M x0 x1 x2 s.1 s.2 = some o → lpE (PX12_apartFrom_7 X B Z Q T M x0 x1 x2) (EX12_apartFrom_7 X B Z Q T M x0 x1 x2) o → PX12_apartFrom_7 X B Z Q T M x0 x1 x2 s := by
  rintro ⟨x3, x4⟩ o h hE
  replace h : bX12_apartFrom_7 T M x0 x1 x2 x3 x4 = some o := h
  unfold bX12_apartFrom_7 at h
  show G X B 7 Z Q 7 [(0, .ref (x0)), (1, .int (x1)), (2, .int (x2)), (3, .int (x3)), (4, .int (x4))] [] T M
  refine g_iload (pc := 7) C dX12_apartFrom_7 4 rfl ?_
  refine g_bipush (pc := 9) (v := 16) C dX12_apartFrom_9 (by decide) ?_
  refine g_icmp_gt (pc := 11) (tgt := 84) C dX12_apartFrom_11 (by decide) (fun c1 => ?_) (fun c1 => ?_)
  · replace h := ifp c1 h
    obtain rfl := Option.some.inj h
    exact g_sub [3] rfl (show G X B 7 Z Q 84 [(3, .int (x3))] [] T M from hE)
  · replace h := ifn c1 h
    refine g_iconst (pc := 14) (v := (-1)) C dX12_apartFrom_14 (by decide) ?_
    refine g_istore (pc := 15) (lo2 := [(5, .int ((-1 : Int32))), (0, .ref (x0)), (1, .int (x1)), (2, .int (x2)), (3, .int (x3)), (4, .int (x4))]) C dX12_apartFrom_15 (by decide) rfl ?_
    replace h := bnd h; obtain ⟨x3_14, h1, h⟩ := h
    refine g_sub [1, 2, 3, 4, 5, 0] rfl ?_
    refine lp_G2 (P := PX12_apartFrom_17 X B _ _ T M x0 x1 x2 x4) (E := EX12_apartFrom_17 X B _ _ T M x0 x1 x2 x4) (tbX12_apartFrom_17 C hd) h1 ?_
    show G X B 7 _ _ 78 [(0, .ref (x0)), (1, .int (x1)), (2, .int (x2)), (3, .int (x3_14)), (4, .int (x4))] [] T M
    obtain ⟨v15, ev15⟩ : ∃ y : Int32, y = x4 + (1 : Int32) := ⟨_, rfl⟩
    replace h := lt_at ev15 h
    refine g_iinc (pc := 78) (v := v15) (k := 4) (lo2 := [(4, .int (v15)), (0, .ref (x0)), (1, .int (x1)), (2, .int (x2)), (3, .int (x3_14))]) C dX12_apartFrom_78 rfl (by rw [ev15]; rfl) (by decide) rfl ?_
    refine g_goto (pc := 81) (tgt := 7) C dX12_apartFrom_81 (by decide) ?_
    obtain rfl := Option.some.inj h
    exact g_sub [1, 2, 3, 4, 0] rfl (show G X B 7 Z Q 7 [(0, .ref (x0)), (1, .int (x1)), (2, .int (x2)), (3, .int (x3_14)), (4, .int (v15))] [] T M from hE)
/-- EyeTrainerModel.apartFrom(II)I -/
def fX12_apartFrom (T : Sh) (M : Me) (x0 : Nat) (x1 : Int32) (x2 : Int32) : Option (Int32) :=
  (lp FU (fun s => bX12_apartFrom_7 T M x0 x1 x2 s.1 s.2) ((268435456 : Int32), (-1 : Int32))).bind (fun x3_16 => some x3_16)
set_option maxHeartbeats 4000000 in
theorem kX12_apartFrom {l : Launch} {B : Bx} {d : Nat} (hd : 2 ≤ d) {T : Sh} {M : Me} {x0 : Nat} {x1 : Int32} {x2 : Int32} {r : Int32} (h : fX12_apartFrom T M x0 x1 x2 = some r) : Kt l B yX12_apartFrom cX12_apartFrom 7 (some .int) d [.ref (x0), .int (x1), .int (x2)] T M (some (.int r)) T M := by
  refine kt_of wX12_apartFrom (Nat.le_refl _) (Nat.le_refl _) (Nat.le_of_ble_eq_true rfl) (fun X C hR hlx hin => ?_)
  subst hlx
  replace C : Cx X B cX12_apartFrom 7 RX12 d (tp T, sl T, tp T, sl T) := C
  unfold fX12_apartFrom at h
  show G X B 7 _ _ 0 [(0, .ref (x0)), (1, .int (x1)), (2, .int (x2))] [] T M
  refine g_ldcw (pc := 0) C dX12_apartFrom_0 q_1619 ?_
  refine g_istore_n (pc := 3) (lo2 := [(3, .int ((268435456 : Int32))), (0, .ref (x0)), (1, .int (x1)), (2, .int (x2))]) C dX12_apartFrom_3 rfl (by decide) rfl ?_
  refine g_iconst (pc := 4) (v := (-1)) C dX12_apartFrom_4 (by decide) ?_
  refine g_istore (pc := 5) (lo2 := [(4, .int ((-1 : Int32))), (3, .int ((268435456 : Int32))), (0, .ref (x0)), (1, .int (x1)), (2, .int (x2))]) C dX12_apartFrom_5 (by decide) rfl ?_
  replace h := bnd h; obtain ⟨x3_16, h1, h⟩ := h
  refine g_sub [2, 3, 4, 1, 0] rfl ?_
  refine lp_G2 (P := PX12_apartFrom_7 X B _ _ T M x0 x1 x2) (E := EX12_apartFrom_7 X B _ _ T M x0 x1 x2) (tbX12_apartFrom_7 C hd) h1 ?_
  show G X B 7 _ _ 84 [(3, .int (x3_16))] [] T M
  refine g_iload_n (pc := 84) C dX12_apartFrom_84 rfl 0 rfl ?_
  obtain rfl := Option.some.inj h
  exact g_iret C hR dX12_apartFrom_85
theorem dX12_laysEllipse_0 : decode cX12_laysEllipse 0 = .ok (.aload_n 0, 1) := by decide +kernel
theorem dX12_laysEllipse_1 : decode cX12_laysEllipse 1 = .ok (.iconst (-1), 1) := by decide +kernel
theorem dX12_laysEllipse_2 : decode cX12_laysEllipse 2 = .ok (.putfield 298, 3) := by decide +kernel
theorem dX12_laysEllipse_5 : decode cX12_laysEllipse 5 = .ok (.iconst 0, 1) := by decide +kernel
theorem dX12_laysEllipse_6 : decode cX12_laysEllipse 6 = .ok (.istore_n 1, 1) := by decide +kernel
theorem dX12_laysEllipse_7 : decode cX12_laysEllipse 7 = .ok (.iload_n 1, 1) := by decide +kernel
theorem dX12_laysEllipse_8 : decode cX12_laysEllipse 8 = .ok (.sipush 384, 3) := by decide +kernel
theorem dX12_laysEllipse_11 : decode cX12_laysEllipse 11 = .ok (.if_icmp .ge 63, 3) := by decide +kernel
theorem dX12_laysEllipse_14 : decode cX12_laysEllipse 14 = .ok (.aload_n 0, 1) := by decide +kernel
theorem dX12_laysEllipse_15 : decode cX12_laysEllipse 15 = .ok (.iload_n 1, 1) := by decide +kernel
theorem dX12_laysEllipse_16 : decode cX12_laysEllipse 16 = .ok (.bipush 24, 2) := by decide +kernel
theorem dX12_laysEllipse_18 : decode cX12_laysEllipse 18 = .ok (.irem, 1) := by decide +kernel
theorem dX12_laysEllipse_19 : decode cX12_laysEllipse 19 = .ok (.iload_n 1, 1) := by decide +kernel
theorem dX12_laysEllipse_20 : decode cX12_laysEllipse 20 = .ok (.bipush 24, 2) := by decide +kernel
theorem dX12_laysEllipse_22 : decode cX12_laysEllipse 22 = .ok (.idiv, 1) := by decide +kernel
theorem dX12_laysEllipse_23 : decode cX12_laysEllipse 23 = .ok (.invokevirtual 295, 3) := by decide +kernel
theorem dX12_laysEllipse_26 : decode cX12_laysEllipse 26 = .ok (.ifCond .ne 6, 3) := by decide +kernel
theorem dX12_laysEllipse_29 : decode cX12_laysEllipse 29 = .ok (.goto 39, 3) := by decide +kernel
theorem dX12_laysEllipse_32 : decode cX12_laysEllipse 32 = .ok (.aload_n 0, 1) := by decide +kernel
theorem dX12_laysEllipse_33 : decode cX12_laysEllipse 33 = .ok (.iload_n 1, 1) := by decide +kernel
theorem dX12_laysEllipse_34 : decode cX12_laysEllipse 34 = .ok (.bipush 24, 2) := by decide +kernel
theorem dX12_laysEllipse_36 : decode cX12_laysEllipse 36 = .ok (.irem, 1) := by decide +kernel
theorem dX12_laysEllipse_37 : decode cX12_laysEllipse 37 = .ok (.iload_n 1, 1) := by decide +kernel
theorem dX12_laysEllipse_38 : decode cX12_laysEllipse 38 = .ok (.bipush 24, 2) := by decide +kernel
theorem dX12_laysEllipse_40 : decode cX12_laysEllipse 40 = .ok (.idiv, 1) := by decide +kernel
theorem dX12_laysEllipse_41 : decode cX12_laysEllipse 41 = .ok (.invokevirtual 301, 3) := by decide +kernel
theorem dX12_laysEllipse_44 : decode cX12_laysEllipse 44 = .ok (.iconst 1, 1) := by decide +kernel
theorem dX12_laysEllipse_45 : decode cX12_laysEllipse 45 = .ok (.isub, 1) := by decide +kernel
theorem dX12_laysEllipse_46 : decode cX12_laysEllipse 46 = .ok (.istore_n 2, 1) := by decide +kernel
theorem dX12_laysEllipse_47 : decode cX12_laysEllipse 47 = .ok (.iload_n 2, 1) := by decide +kernel
theorem dX12_laysEllipse_48 : decode cX12_laysEllipse 48 = .ok (.aload_n 0, 1) := by decide +kernel
theorem dX12_laysEllipse_49 : decode cX12_laysEllipse 49 = .ok (.getfield 298, 3) := by decide +kernel
theorem dX12_laysEllipse_52 : decode cX12_laysEllipse 52 = .ok (.if_icmp .gt 6, 3) := by decide +kernel
theorem dX12_laysEllipse_55 : decode cX12_laysEllipse 55 = .ok (.goto 13, 3) := by decide +kernel
theorem dX12_laysEllipse_58 : decode cX12_laysEllipse 58 = .ok (.aload_n 0, 1) := by decide +kernel
theorem dX12_laysEllipse_59 : decode cX12_laysEllipse 59 = .ok (.iload_n 2, 1) := by decide +kernel
theorem dX12_laysEllipse_60 : decode cX12_laysEllipse 60 = .ok (.putfield 298, 3) := by decide +kernel
theorem dX12_laysEllipse_63 : decode cX12_laysEllipse 63 = .ok (.aload_n 0, 1) := by decide +kernel
theorem dX12_laysEllipse_64 : decode cX12_laysEllipse 64 = .ok (.iload_n 1, 1) := by decide +kernel
theorem dX12_laysEllipse_65 : decode cX12_laysEllipse 65 = .ok (.putfield 304, 3) := by decide +kernel
theorem dX12_laysEllipse_68 : decode cX12_laysEllipse 68 = .ok (.iinc 1 1, 3) := by decide +kernel
theorem dX12_laysEllipse_71 : decode cX12_laysEllipse 71 = .ok (.goto (-64), 3) := by decide +kernel
theorem dX12_laysEllipse_74 : decode cX12_laysEllipse 74 = .ok (.return_, 1) := by decide +kernel
theorem wX12_laysEllipse : Mw yX12_laysEllipse cX12_laysEllipse 3 none 0 := ⟨q_1609, q_130, by decide, ⟨by decide +kernel, by decide +kernel⟩, by decide +kernel, by decide +kernel⟩
-- a loop of EyeTrainerModel.laysEllipse at 7
def bX12_laysEllipse_7 (T : Sh) (x0 : Nat) (x1 : Int32) (M : Me) : Option ((Int32 × Me) ⊕ (Me)) :=
  if (384 : Int32) ≤ x1 then (some (.inr M)) else (gd (kd T x0 = 11) <| Option.bind (fX12_isMapped T M x0 (x1 - x1 / (24 : Int32) * (24 : Int32)) (x1 / (24 : Int32))) fun r5 => if r5 = 0 then (lt (x1 + (1 : Int32)) fun v14 => some (.inl (v14, M))) else (Option.bind (fX12_apartFrom T M x0 (x1 - x1 / (24 : Int32) * (24 : Int32)) (x1 / (24 : Int32))) fun r7 => lt (r7 - (1 : Int32)) fun v8 => if (gI M x0 26) < v8 then (lt (pI M x0 26 v8) fun M10 => lt (pI M10 x0 27 x1) fun M11 => lt (x1 + (1 : Int32)) fun v12 => some (.inl (v12, M11))) else (lt (x1 + (1 : Int32)) fun v13 => some (.inl (v13, M)))))
def PX12_laysEllipse_7 (X : Fx) (B : Bx) (Z : Nat × Nat × Nat × Nat) (Q : State → Prop) (T : Sh) (x0 : Nat) (s : Int32 × Me) : Prop := G X B 3 Z Q 7 [(0, .ref (x0)), (1, .int (s.1))] [] T s.2
def EX12_laysEllipse_7 (X : Fx) (B : Bx) (Z : Nat × Nat × Nat × Nat) (Q : State → Prop) (T : Sh) (x0 : Nat) (r : Me) : Prop := G X B 3 Z Q 74 [] [] T r
set_option maxHeartbeats 4000000 in
theorem tbX12_laysEllipse_7 {X : Fx} {B : Bx} {Z : Nat × Nat × Nat × Nat} {Q : State → Prop} {d : Nat} {T : Sh} (C : Cx X B cX12_laysEllipse 3 RX12 d Z) (hd : 3 ≤ d) {x0 : Nat} : ∀ (s : Int32 × Me) (o : (Int32 × Me) ⊕ (Me)), bX12_laysEllipse_7 T x0 s.1 s.2 = some o → lpE (PX12_laysEllipse_7 X B Z Q T x0) (EX12_laysEllipse_7 X B Z Q T x0) o → PX12_laysEllipse_7 X B Z Q T x0 s := by
  rintro ⟨x1, M⟩ o h hE
  replace h : bX12_laysEllipse_7 T x0 x1 M = some o := h
  unfold bX12_laysEllipse_7 at h
  show G X B 3 Z Q 7 [(0, .ref (x0)), (1, .int (x1))] [] T M
  refine g_iload_n (pc := 7) C dX12_laysEllipse_7 rfl 1 rfl ?_
  refine g_sipush (pc := 8) (v := 384) C dX12_laysEllipse_8 (by decide) ?_
  refine g_icmp_ge (pc := 11) (tgt := 74) C dX12_laysEllipse_11 (by decide) (fun c3 => ?_) (fun c3 => ?_)
  · replace h := ifp c3 h
    obtain rfl := Option.some.inj h
    exact g_sub [] rfl (show G X B 3 Z Q 74 [] [] T M from hE)
  · replace h := ifn c3 h
    refine g_aload_n (pc := 14) C dX12_laysEllipse_14 rfl 0 rfl ?_
    refine g_iload_n (pc := 15) C dX12_laysEllipse_15 rfl 1 rfl ?_
    refine g_bipush (pc := 16) (v := 24) C dX12_laysEllipse_16 (by decide) ?_
    refine g_irem (pc := 18) C dX12_laysEllipse_18 (by decide) ?_
    refine g_iload_n (pc := 19) C dX12_laysEllipse_19 rfl 1 rfl ?_
    refine g_bipush (pc := 20) (v := 24) C dX12_laysEllipse_20 (by decide) ?_
    refine g_idiv (pc := 22) C dX12_laysEllipse_22 (by decide) ?_
    replace h := gd_some h; obtain ⟨hk4, h⟩ := h
    replace h := bnd h; obtain ⟨r5, h1, h⟩ := h
    refine g_callVi (pc := 23) (As := [.int (x1 - x1 / (24 : Int32) * (24 : Int32)), .int (x1 / (24 : Int32))]) (st := []) C dX12_laysEllipse_23 wX12_isMapped hk4 rfl (by decide) q_1612 q_95 q_1610 (by omega) rfl (Nat.le_of_ble_eq_true rfl) (kX12_isMapped (d := 1) (Nat.le_refl _) h1) ?_
    refine g_if_ne (pc := 26) (tgt := 32) C dX12_laysEllipse_26 (by decide) (fun c6 => ?_) (fun c6 => ?_)
    · replace h := ifn c6 h
      refine g_aload_n (pc := 32) C dX12_laysEllipse_32 rfl 0 rfl ?_
      refine g_iload_n (pc := 33) C dX12_laysEllipse_33 rfl 1 rfl ?_
      refine g_bipush (pc := 34) (v := 24) C dX12_laysEllipse_34 (by decide) ?_
      refine g_irem (pc := 36) C dX12_laysEllipse_36 (by decide) ?_
      refine g_iload_n (pc := 37) C dX12_laysEllipse_37 rfl 1 rfl ?_
      refine g_bipush (pc := 38) (v := 24) C dX12_laysEllipse_38 (by decide) ?_
      refine g_idiv (pc := 40) C dX12_laysEllipse_40 (by decide) ?_
      replace h := bnd h; obtain ⟨r7, h1, h⟩ := h
      refine g_callVi (pc := 41) (As := [.int (x1 - x1 / (24 : Int32) * (24 : Int32)), .int (x1 / (24 : Int32))]) (st := []) C dX12_laysEllipse_41 wX12_apartFrom hk4 rfl (by decide) q_1617 q_96 q_1615 (by omega) rfl (Nat.le_of_ble_eq_true rfl) (kX12_apartFrom (d := 2) (Nat.le_refl _) h1) ?_
      refine g_iconst (pc := 44) (v := 1) C dX12_laysEllipse_44 (by decide) ?_
      refine g_isub (pc := 45) C dX12_laysEllipse_45 ?_
      refine g_topi (fun v8 ev8 => ?_)
      replace h := lt_at ev8 h
      refine g_istore_n (pc := 46) (lo2 := [(2, .int (v8)), (0, .ref (x0)), (1, .int (x1))]) C dX12_laysEllipse_46 rfl (by decide) rfl ?_
      refine g_iload_n (pc := 47) C dX12_laysEllipse_47 rfl 0 rfl ?_
      refine g_aload_n (pc := 48) C dX12_laysEllipse_48 rfl 1 rfl ?_
      refine g_get (pc := 49) (v := .int (gI M x0 26)) C dX12_laysEllipse_49 kX12 hk4 26 (by decide) q_1253 rfl ?_
      refine g_icmp_gt (pc := 52) (tgt := 58) C dX12_laysEllipse_52 (by decide) (fun c9 => ?_) (fun c9 => ?_)
      · replace h := ifp c9 h
        refine g_aload_n (pc := 58) C dX12_laysEllipse_58 rfl 1 rfl ?_
        refine g_iload_n (pc := 59) C dX12_laysEllipse_59 rfl 0 rfl ?_
        refine g_putI (pc := 60) C dX12_laysEllipse_60 kX12 hk4 26 (by decide) rfl rfl rfl q_1253 ?_
        refine g_mem (fun M10 eM10 => ?_)
        replace h := lt_at eM10 h
        refine g_aload_n (pc := 63) C dX12_laysEllipse_63 rfl 1 rfl ?_
        refine g_iload_n (pc := 64) C dX12_laysEllipse_64 rfl 2 rfl ?_
        refine g_putI (pc := 65) C dX12_laysEllipse_65 kX12 hk4 27 (by decide) rfl rfl rfl q_1254 ?_
        refine g_mem (fun M11 eM11 => ?_)
        replace h := lt_at eM11 h
        obtain ⟨v12, ev12⟩ : ∃ y : Int32, y = x1 + (1 : Int32) := ⟨_, rfl⟩
        replace h := lt_at ev12 h
        refine g_iinc (pc := 68) (v := v12) (k := 2) (lo2 := [(1, .int (v12)), (2, .int (v8)), (0, .ref (x0))]) C dX12_laysEllipse_68 rfl (by rw [ev12]; rfl) (by decide) rfl ?_
        refine g_goto (pc := 71) (tgt := 7) C dX12_laysEllipse_71 (by decide) ?_
        obtain rfl := Option.some.inj h
        exact g_sub [2, 0] rfl (show G X B 3 Z Q 7 [(0, .ref (x0)), (1, .int (v12))] [] T M11 from hE)
      · replace h := ifn c9 h
        refine g_goto (pc := 55) (tgt := 68) C dX12_laysEllipse_55 (by decide) ?_
        obtain ⟨v13, ev13⟩ : ∃ y : Int32, y = x1 + (1 : Int32) := ⟨_, rfl⟩
        replace h := lt_at ev13 h
        refine g_iinc (pc := 68) (v := v13) (k := 2) (lo2 := [(1, .int (v13)), (2, .int (v8)), (0, .ref (x0))]) C dX12_laysEllipse_68 rfl (by rw [ev13]; rfl) (by decide) rfl ?_
        refine g_goto (pc := 71) (tgt := 7) C dX12_laysEllipse_71 (by decide) ?_
        obtain rfl := Option.some.inj h
        exact g_sub [2, 0] rfl (show G X B 3 Z Q 7 [(0, .ref (x0)), (1, .int (v13))] [] T M from hE)
    · replace h := ifp c6 h
      refine g_goto (pc := 29) (tgt := 68) C dX12_laysEllipse_29 (by decide) ?_
      obtain ⟨v14, ev14⟩ : ∃ y : Int32, y = x1 + (1 : Int32) := ⟨_, rfl⟩
      replace h := lt_at ev14 h
      refine g_iinc (pc := 68) (v := v14) (k := 1) (lo2 := [(1, .int (v14)), (0, .ref (x0))]) C dX12_laysEllipse_68 rfl (by rw [ev14]; rfl) (by decide) rfl ?_
      refine g_goto (pc := 71) (tgt := 7) C dX12_laysEllipse_71 (by decide) ?_
      obtain rfl := Option.some.inj h
      exact g_sub [1, 0] rfl (show G X B 3 Z Q 7 [(0, .ref (x0)), (1, .int (v14))] [] T M from hE)
/-- EyeTrainerModel.laysEllipse()V -/
def fX12_laysEllipse (T : Sh) (M : Me) (x0 : Nat) : Option (Unit × Me) :=
  gd (kd T x0 = 11) <| lt (pI M x0 26 (-1 : Int32)) fun M2 => (lp FU (fun s => bX12_laysEllipse_7 T x0 s.1 s.2) ((0 : Int32), M2)).bind (fun M15 => some ((), M15))
set_option maxHeartbeats 4000000 in
theorem kX12_laysEllipse {l : Launch} {B : Bx} {d : Nat} (hd : 3 ≤ d) {T : Sh} {M : Me} {x0 : Nat} {M' : Me} (h : fX12_laysEllipse T M x0 = some ((), M')) : Kt l B yX12_laysEllipse cX12_laysEllipse 3 none d [.ref (x0)] T M none T M' := by
  refine kt_of wX12_laysEllipse (Nat.le_refl _) (Nat.le_refl _) (Nat.le_of_ble_eq_true rfl) (fun X C hR hlx hin => ?_)
  subst hlx
  replace C : Cx X B cX12_laysEllipse 3 RX12 d (tp T, sl T, tp T, sl T) := C
  unfold fX12_laysEllipse at h
  show G X B 3 _ _ 0 [(0, .ref (x0))] [] T M
  refine g_aload_n (pc := 0) C dX12_laysEllipse_0 rfl 0 rfl ?_
  refine g_iconst (pc := 1) (v := (-1)) C dX12_laysEllipse_1 (by decide) ?_
  replace h := gd_some h; obtain ⟨hk1, h⟩ := h
  refine g_putI (pc := 2) C dX12_laysEllipse_2 kX12 hk1 26 (by decide) rfl rfl rfl q_1253 ?_
  refine g_mem (fun M2 eM2 => ?_)
  replace h := lt_at eM2 h
  refine g_iconst (pc := 5) (v := 0) C dX12_laysEllipse_5 (by decide) ?_
  refine g_istore_n (pc := 6) (lo2 := [(1, .int ((0 : Int32))), (0, .ref (x0))]) C dX12_laysEllipse_6 rfl (by decide) rfl ?_
  replace h := bnd h; obtain ⟨M15, h1, h⟩ := h
  refine g_sub [1, 0] rfl ?_
  refine lp_G2 (P := PX12_laysEllipse_7 X B _ _ T x0) (E := EX12_laysEllipse_7 X B _ _ T x0) (tbX12_laysEllipse_7 C hd) h1 ?_
  show G X B 3 _ _ 74 [] [] T M15
  obtain ⟨-, rfl⟩ := Prod.mk.inj (Option.some.inj h)
  exact g_vret C hR dX12_laysEllipse_74
theorem dX12_edgeOf_0 : decode cX12_edgeOf 0 = .ok (.aload_n 0, 1) := by decide +kernel
theorem dX12_edgeOf_1 : decode cX12_edgeOf 1 = .ok (.iload_n 1, 1) := by decide +kernel
theorem dX12_edgeOf_2 : decode cX12_edgeOf 2 = .ok (.invokevirtual 269, 3) := by decide +kernel
theorem dX12_edgeOf_5 : decode cX12_edgeOf 5 = .ok (.istore_n 2, 1) := by decide +kernel
theorem dX12_edgeOf_6 : decode cX12_edgeOf 6 = .ok (.iconst 1, 1) := by decide +kernel
theorem dX12_edgeOf_7 : decode cX12_edgeOf 7 = .ok (.istore_n 3, 1) := by decide +kernel
theorem dX12_edgeOf_8 : decode cX12_edgeOf 8 = .ok (.iload_n 3, 1) := by decide +kernel
theorem dX12_edgeOf_9 : decode cX12_edgeOf 9 = .ok (.aload_n 0, 1) := by decide +kernel
theorem dX12_edgeOf_10 : decode cX12_edgeOf 10 = .ok (.getfield 13, 3) := by decide +kernel
theorem dX12_edgeOf_13 : decode cX12_edgeOf 13 = .ok (.iconst 2, 1) := by decide +kernel
theorem dX12_edgeOf_14 : decode cX12_edgeOf 14 = .ok (.iaload, 1) := by decide +kernel
theorem dX12_edgeOf_15 : decode cX12_edgeOf 15 = .ok (.iadd, 1) := by decide +kernel
theorem dX12_edgeOf_16 : decode cX12_edgeOf 16 = .ok (.bipush 24, 2) := by decide +kernel
theorem dX12_edgeOf_18 : decode cX12_edgeOf 18 = .ok (.if_icmp .gt 68, 3) := by decide +kernel
theorem dX12_edgeOf_21 : decode cX12_edgeOf 21 = .ok (.iload_n 2, 1) := by decide +kernel
theorem dX12_edgeOf_22 : decode cX12_edgeOf 22 = .ok (.i2l, 1) := by decide +kernel
theorem dX12_edgeOf_23 : decode cX12_edgeOf 23 = .ok (.iload_n 3, 1) := by decide +kernel
theorem dX12_edgeOf_24 : decode cX12_edgeOf 24 = .ok (.iconst 1, 1) := by decide +kernel
theorem dX12_edgeOf_25 : decode cX12_edgeOf 25 = .ok (.isub, 1) := by decide +kernel
theorem dX12_edgeOf_26 : decode cX12_edgeOf 26 = .ok (.invokestatic 240, 3) := by decide +kernel
theorem dX12_edgeOf_29 : decode cX12_edgeOf 29 = .ok (.ifCond .ne 7, 3) := by decide +kernel
theorem dX12_edgeOf_32 : decode cX12_edgeOf 32 = .ok (.iconst 1, 1) := by decide +kernel
theorem dX12_edgeOf_33 : decode cX12_edgeOf 33 = .ok (.goto 4, 3) := by decide +kernel
theorem dX12_edgeOf_36 : decode cX12_edgeOf 36 = .ok (.iconst 0, 1) := by decide +kernel
theorem dX12_edgeOf_37 : decode cX12_edgeOf 37 = .ok (.istore 4, 2) := by decide +kernel
theorem dX12_edgeOf_39 : decode cX12_edgeOf 39 = .ok (.iconst 0, 1) := by decide +kernel
theorem dX12_edgeOf_40 : decode cX12_edgeOf 40 = .ok (.istore 5, 2) := by decide +kernel
theorem dX12_edgeOf_42 : decode cX12_edgeOf 42 = .ok (.iload 5, 2) := by decide +kernel
theorem dX12_edgeOf_44 : decode cX12_edgeOf 44 = .ok (.aload_n 0, 1) := by decide +kernel
theorem dX12_edgeOf_45 : decode cX12_edgeOf 45 = .ok (.getfield 13, 3) := by decide +kernel
theorem dX12_edgeOf_48 : decode cX12_edgeOf 48 = .ok (.iconst 2, 1) := by decide +kernel
theorem dX12_edgeOf_49 : decode cX12_edgeOf 49 = .ok (.iaload, 1) := by decide +kernel
theorem dX12_edgeOf_50 : decode cX12_edgeOf 50 = .ok (.if_icmp .ge 23, 3) := by decide +kernel
theorem dX12_edgeOf_53 : decode cX12_edgeOf 53 = .ok (.iload 4, 2) := by decide +kernel
theorem dX12_edgeOf_55 : decode cX12_edgeOf 55 = .ok (.iload_n 2, 1) := by decide +kernel
theorem dX12_edgeOf_56 : decode cX12_edgeOf 56 = .ok (.i2l, 1) := by decide +kernel
theorem dX12_edgeOf_57 : decode cX12_edgeOf 57 = .ok (.iload_n 3, 1) := by decide +kernel
theorem dX12_edgeOf_58 : decode cX12_edgeOf 58 = .ok (.iload 5, 2) := by decide +kernel
theorem dX12_edgeOf_60 : decode cX12_edgeOf 60 = .ok (.iadd, 1) := by decide +kernel
theorem dX12_edgeOf_61 : decode cX12_edgeOf 61 = .ok (.invokestatic 240, 3) := by decide +kernel
theorem dX12_edgeOf_64 : decode cX12_edgeOf 64 = .ok (.iand, 1) := by decide +kernel
theorem dX12_edgeOf_65 : decode cX12_edgeOf 65 = .ok (.istore 4, 2) := by decide +kernel
theorem dX12_edgeOf_67 : decode cX12_edgeOf 67 = .ok (.iinc 5 1, 3) := by decide +kernel
theorem dX12_edgeOf_70 : decode cX12_edgeOf 70 = .ok (.goto (-28), 3) := by decide +kernel
theorem dX12_edgeOf_73 : decode cX12_edgeOf 73 = .ok (.iload 4, 2) := by decide +kernel
theorem dX12_edgeOf_75 : decode cX12_edgeOf 75 = .ok (.ifCond .eq 5, 3) := by decide +kernel
theorem dX12_edgeOf_78 : decode cX12_edgeOf 78 = .ok (.iload_n 3, 1) := by decide +kernel
theorem dX12_edgeOf_79 : decode cX12_edgeOf 79 = .ok (.ireturn, 1) := by decide +kernel
theorem dX12_edgeOf_80 : decode cX12_edgeOf 80 = .ok (.iinc 3 1, 3) := by decide +kernel
theorem dX12_edgeOf_83 : decode cX12_edgeOf 83 = .ok (.goto (-75), 3) := by decide +kernel
theorem dX12_edgeOf_86 : decode cX12_edgeOf 86 = .ok (.iconst (-1), 1) := by decide +kernel
theorem dX12_edgeOf_87 : decode cX12_edgeOf 87 = .ok (.ireturn, 1) := by decide +kernel
theorem wX12_edgeOf : Mw yX12_edgeOf cX12_edgeOf 6 (some .int) 1 := ⟨q_1578, q_130, by decide, ⟨by decide +kernel, by decide +kernel⟩, by decide +kernel, by decide +kernel⟩
-- a loop of EyeTrainerModel.edgeOf at 8
-- a loop of EyeTrainerModel.edgeOf at 42
def bX12_edgeOf_42 (T : Sh) (M : Me) (x0 : Nat) (x2 : Int32) (x3 : Int32) (x4 : Int32) (x5 : Int32) : Option ((Int32 × Int32) ⊕ (Int32)) :=
  gd (kd T x0 = 11) <| Option.bind (gR M x0 1) fun a12 => gd (kd T a12 = 13) <| gv (2 : Int32) (ln T a12) <| if (gI M a12 (Int32.toNatClampNeg (2 : Int32))) ≤ x5 then (some (.inr x4)) else (Option.bind (fX12_isIn (Int32.toInt64 x2) (x3 + x5)) fun r16 => lt (x4 &&& r16) fun v17 => lt (x5 + (1 : Int32)) fun v18 => some (.inl (v17, v18)))
def PX12_edgeOf_42 (X : Fx) (B : Bx) (Z : Nat × Nat × Nat × Nat) (Q : State → Prop) (T : Sh) (M : Me) (x0 : Nat) (x2 : Int32) (x3 : Int32) (s : Int32 × Int32) : Prop := G X B 6 Z Q 42 [(0, .ref (x0)), (2, .int (x2)), (3, .int (x3)), (4, .int (s.1)), (5, .int (s.2))] [] T M
def EX12_edgeOf_42 (X : Fx) (B : Bx) (Z : Nat × Nat × Nat × Nat) (Q : State → Prop) (T : Sh) (M : Me) (x0 : Nat) (x2 : Int32) (x3 : Int32) (r : Int32) : Prop := G X B 6 Z Q 73 [(0, .ref (x0)), (2, .int (x2)), (3, .int (x3)), (4, .int (r))] [] T M
set_option maxHeartbeats 4000000 in
theorem tbX12_edgeOf_42 {X : Fx} {B : Bx} {Z : Nat × Nat × Nat × Nat} {Q : State → Prop} {d : Nat} {T : Sh} {M : Me} (C : Cx X B cX12_edgeOf 6 RX12 d Z) (hd : 4 ≤ d) {x0 : Nat} {x2 : Int32} {x3 : Int32} : ∀ (s : Int32 × Int32) (o : (Int32 × Int32) ⊕ (Int32)), bX12_edgeOf_42 T M x0 x2 x3 s.1 s.2 = some o → lpE (PX12_edgeOf_42 X B Z Q T M x0 x2 x3) (EX12_edgeOf_42 X B Z Q T M x0 x2 x3) o → PX12_edgeOf_42 X B Z Q T M x0 x2 x3 s := by
  rintro ⟨x4, x5⟩ o h hE
  replace h : bX12_edgeOf_42 T M x0 x2 x3 x4 x5 = some o := h
  unfold bX12_edgeOf_42 at h
  show G X B 6 Z Q 42 [(0, .ref (x0)), (2, .int (x2)), (3, .int (x3)), (4, .int (x4)), (5, .int (x5))] [] T M
  refine g_iload (pc := 42) C dX12_edgeOf_42 4 rfl ?_
  refine g_aload_n (pc := 44) C dX12_edgeOf_44 rfl 0 rfl ?_
  replace h := gd_some h; obtain ⟨hk11, h⟩ := h
  refine g_get (pc := 45) (v := va_rf (gR M x0 1)) C dX12_edgeOf_45 kX12 hk11 1 (by decide) q_1228 rfl ?_
  replace h := bnd h; obtain ⟨a12, ea12, h⟩ := h
  refine g_refq ea12 ?_
  refine g_iconst (pc := 48) (v := 2) C dX12_edgeOf_48 (by decide) ?_
  replace h := gd_some h; obtain ⟨hk13, h⟩ := h
  replace h := gv_some h; obtain ⟨hi14, h⟩ := h
  refine g_iald (pc := 49) C dX12_edgeOf_49 hk13 hi14 ?_
  refine g_icmp_ge (pc := 50) (tgt := 73) C dX12_edgeOf_50 (by decide) (fun c15 => ?_) (fun c15 => ?_)
  · replace h := ifp c15 h
    obtain rfl := Option.some.inj h
    exact g_sub [0, 1, 2, 3] rfl (show G X B 6 Z Q 73 [(0, .ref (x0)), (2, .int (x2)), (3, .int (x3)), (4, .int (x4))] [] T M from hE)
  · replace h := ifn c15 h
    refine g_iload (pc := 53) C dX12_edgeOf_53 3 rfl ?_
    refine g_iload_n (pc := 55) C dX12_edgeOf_55 rfl 1 rfl ?_
    refine g_i2l (pc := 56) C dX12_edgeOf_56 ?_
    refine g_iload_n (pc := 57) C dX12_edgeOf_57 rfl 2 rfl ?_
    refine g_iload (pc := 58) C dX12_edgeOf_58 4 rfl ?_
    refine g_iadd (pc := 60) C dX12_edgeOf_60 ?_
    replace h := bnd h; obtain ⟨r16, h1, h⟩ := h
    refine g_callSi (pc := 61) (As := [.long (Int32.toInt64 x2), .int (x3 + x5)]) (st := [.int (x4)]) C dX12_edgeOf_61 wX12_isIn q_1580 q_1579 (by omega) rfl (Nat.le_of_ble_eq_true rfl) (kX12_isIn (d := 0) (Nat.le_refl _) h1) ?_
    refine g_iand (pc := 64) C dX12_edgeOf_64 ?_
    refine g_topi (fun v17 ev17 => ?_)
    replace h := lt_at ev17 h
    refine g_istore (pc := 65) (lo2 := [(4, .int (v17)), (0, .ref (x0)), (2, .int (x2)), (3, .int (x3)), (5, .int (x5))]) C dX12_edgeOf_65 (by decide) rfl ?_
    obtain ⟨v18, ev18⟩ : ∃ y : Int32, y = x5 + (1 : Int32) := ⟨_, rfl⟩
    replace h := lt_at ev18 h
    refine g_iinc (pc := 67) (v := v18) (k := 4) (lo2 := [(5, .int (v18)), (4, .int (v17)), (0, .ref (x0)), (2, .int (x2)), (3, .int (x3))]) C dX12_edgeOf_67 rfl (by rw [ev18]; rfl) (by decide) rfl ?_
    refine g_goto (pc := 70) (tgt := 42) C dX12_edgeOf_70 (by decide) ?_
    obtain rfl := Option.some.inj h
    exact g_sub [2, 3, 4, 1, 0] rfl (show G X B 6 Z Q 42 [(0, .ref (x0)), (2, .int (x2)), (3, .int (x3)), (4, .int (v17)), (5, .int (v18))] [] T M from hE)
def jX12_edgeOf_37 (T : Sh) (M : Me) (x0 : Nat) (x2 : Int32) (x3 : Int32) (s0 : Int32) : Option ((Int32) ⊕ (Int32 ⊕ Unit)) :=
  (lp FU (fun s => bX12_edgeOf_42 T M x0 x2 x3 s.1 s.2) (s0, (0 : Int32))).bind (fun x4_19 => if x4_19 = 0 then (lt (x3 + (1 : Int32)) fun v21 => some (.inl v21)) else (some (.inr (.inl x3))))
def bX12_edgeOf_8 (T : Sh) (M : Me) (x0 : Nat) (x2 : Int32) (x3 : Int32) : Option ((Int32) ⊕ (Int32 ⊕ Unit)) :=
  gd (kd T x0 = 11) <| Option.bind (gR M x0 1) fun a5 => gd (kd T a5 = 13) <| gv (2 : Int32) (ln T a5) <| if (24 : Int32) < (x3 + (gI M a5 (Int32.toNatClampNeg (2 : Int32)))) then (some (.inr (.inr ()))) else (Option.bind (fX12_isIn (Int32.toInt64 x2) (x3 - (1 : Int32))) fun r9 => if r9 = 0 then (jX12_edgeOf_37 T M x0 x2 x3 (1 : Int32)) else (jX12_edgeOf_37 T M x0 x2 x3 (0 : Int32)))
def PX12_edgeOf_8 (X : Fx) (B : Bx) (Z : Nat × Nat × Nat × Nat) (Q : State → Prop) (T : Sh) (M : Me) (x0 : Nat) (x2 : Int32) (s : Int32) : Prop := G X B 6 Z Q 8 [(0, .ref (x0)), (2, .int (x2)), (3, .int (s))] [] T M
def EX12_edgeOf_8 (X : Fx) (B : Bx) (Z : Nat × Nat × Nat × Nat) (Q : State → Prop) (T : Sh) (M : Me) (x0 : Nat) (x2 : Int32) (r : Int32 ⊕ Unit) : Prop := Sum.elim (fun r => G X B 6 Z Q 78 [(3, .int (r))] [] T M) (fun r => G X B 6 Z Q 86 [] [] T M) r
set_option maxHeartbeats 4000000 in
theorem tjX12_edgeOf_37 {X : Fx} {B : Bx} {Z : Nat × Nat × Nat × Nat} {Q : State → Prop} {d : Nat} {T : Sh} {M : Me} {x0 : Nat} {x2 : Int32} {x3 : Int32} {s0 : Int32} {o : (Int32) ⊕ (Int32 ⊕ Unit)} (C : Cx X B cX12_edgeOf 6 RX12 d Z) (hd : 4 ≤ d) (h : jX12_edgeOf_37 T M x0 x2 x3 s0 = some o) (hE : lpE (PX12_edgeOf_8 X B Z Q T M x0 x2) (EX12_edgeOf_8 X B Z Q T M x0 x2) o) : G X B 6 Z Q 37 [(0, .ref (x0)), (2, .int (x2)), (3, .int (x3))] [.int (s0)] T M := by
  unfold jX12_edgeOf_37 at h
  refine g_istore (pc := 37) (lo2 := [(4, .int (s0)), (0, .ref (x0)), (2, .int (x2)), (3, .int (x3))]) C dX12_edgeOf_37 (by decide) rfl ?_
  refine g_iconst (pc := 39) (v := 0) C dX12_edgeOf_39 (by decide) ?_
  refine g_istore (pc := 40) (lo2 := [(5, .int ((0 : Int32))), (4, .int (s0)), (0, .ref (x0)), (2, .int (x2)), (3, .int (x3))]) C dX12_edgeOf_40 (by decide) rfl ?_
  replace h := bnd h; obtain ⟨x4_19, h1, h⟩ := h
  refine g_sub [2, 3, 4, 1, 0] rfl ?_
  refine lp_G2 (P := PX12_edgeOf_42 X B _ _ T M x0 x2 x3) (E := EX12_edgeOf_42 X B _ _ T M x0 x2 x3) (tbX12_edgeOf_42 C hd) h1 ?_
  show G X B 6 _ _ 73 [(0, .ref (x0)), (2, .int (x2)), (3, .int (x3)), (4, .int (x4_19))] [] T M
  refine g_iload (pc := 73) C dX12_edgeOf_73 3 rfl ?_
  refine g_if_eq (pc := 75) (tgt := 80) C dX12_edgeOf_75 (by decide) (fun c20 => ?_) (fun c20 => ?_)
  · replace h := ifp c20 h
    obtain ⟨v21, ev21⟩ : ∃ y : Int32, y = x3 + (1 : Int32) := ⟨_, rfl⟩
    replace h := lt_at ev21 h
    refine g_iinc (pc := 80) (v := v21) (k := 2) (lo2 := [(3, .int (v21)), (0, .ref (x0)), (2, .int (x2)), (4, .int (x4_19))]) C dX12_edgeOf_80 rfl (by rw [ev21]; rfl) (by decide) rfl ?_
    refine g_goto (pc := 83) (tgt := 8) C dX12_edgeOf_83 (by decide) ?_
    obtain rfl := Option.some.inj h
    exact g_sub [1, 2, 0] rfl (show G X B 6 Z Q 8 [(0, .ref (x0)), (2, .int (x2)), (3, .int (v21))] [] T M from hE)
  · replace h := ifn c20 h
    obtain rfl := Option.some.inj h
    exact g_sub [2] rfl (show G X B 6 Z Q 78 [(3, .int (x3))] [] T M from hE)
set_option maxHeartbeats 4000000 in
theorem tbX12_edgeOf_8 {X : Fx} {B : Bx} {Z : Nat × Nat × Nat × Nat} {Q : State → Prop} {d : Nat} {T : Sh} {M : Me} (C : Cx X B cX12_edgeOf 6 RX12 d Z) (hd : 4 ≤ d) {x0 : Nat} {x2 : Int32} : ∀ (s : Int32) (o : (Int32) ⊕ (Int32 ⊕ Unit)), bX12_edgeOf_8 T M x0 x2 s = some o → lpE (PX12_edgeOf_8 X B Z Q T M x0 x2) (EX12_edgeOf_8 X B Z Q T M x0 x2) o → PX12_edgeOf_8 X B Z Q T M x0 x2 s := by
  rintro x3 o h hE
  replace h : bX12_edgeOf_8 T M x0 x2 x3 = some o := h
  unfold bX12_edgeOf_8 at h
  show G X B 6 Z Q 8 [(0, .ref (x0)), (2, .int (x2)), (3, .int (x3))] [] T M
  refine g_iload_n (pc := 8) C dX12_edgeOf_8 rfl 2 rfl ?_
  refine g_aload_n (pc := 9) C dX12_edgeOf_9 rfl 0 rfl ?_
  replace h := gd_some h; obtain ⟨hk4, h⟩ := h
  refine g_get (pc := 10) (v := va_rf (gR M x0 1)) C dX12_edgeOf_10 kX12 hk4 1 (by decide) q_1228 rfl ?_
  replace h := bnd h; obtain ⟨a5, ea5, h⟩ := h
  refine g_refq ea5 ?_
  refine g_iconst (pc := 13) (v := 2) C dX12_edgeOf_13 (by decide) ?_
  replace h := gd_some h; obtain ⟨hk6, h⟩ := h
  replace h := gv_some h; obtain ⟨hi7, h⟩ := h
  refine g_iald (pc := 14) C dX12_edgeOf_14 hk6 hi7 ?_
  refine g_iadd (pc := 15) C dX12_edgeOf_15 ?_
  refine g_bipush (pc := 16) (v := 24) C dX12_edgeOf_16 (by decide) ?_
  refine g_icmp_gt (pc := 18) (tgt := 86) C dX12_edgeOf_18 (by decide) (fun c8 => ?_) (fun c8 => ?_)
  · replace h := ifp c8 h
    obtain rfl := Option.some.inj h
    exact g_sub [] rfl (show G X B 6 Z Q 86 [] [] T M from hE)
  · replace h := ifn c8 h
    refine g_iload_n (pc := 21) C dX12_edgeOf_21 rfl 1 rfl ?_
    refine g_i2l (pc := 22) C dX12_edgeOf_22 ?_
    refine g_iload_n (pc := 23) C dX12_edgeOf_23 rfl 2 rfl ?_
    refine g_iconst (pc := 24) (v := 1) C dX12_edgeOf_24 (by decide) ?_
    refine g_isub (pc := 25) C dX12_edgeOf_25 ?_
    replace h := bnd h; obtain ⟨r9, h1, h⟩ := h
    refine g_callSi (pc := 26) (As := [.long (Int32.toInt64 x2), .int (x3 - (1 : Int32))]) (st := []) C dX12_edgeOf_26 wX12_isIn q_1580 q_1579 (by omega) rfl (Nat.le_of_ble_eq_true rfl) (kX12_isIn (d := 0) (Nat.le_refl _) h1) ?_
    refine g_if_ne (pc := 29) (tgt := 36) C dX12_edgeOf_29 (by decide) (fun c10 => ?_) (fun c10 => ?_)
    · replace h := ifn c10 h
      refine g_iconst (pc := 36) (v := 0) C dX12_edgeOf_36 (by decide) ?_
      exact g_sub [0, 1, 2] rfl (tjX12_edgeOf_37 C hd h hE)
    · replace h := ifp c10 h
      refine g_iconst (pc := 32) (v := 1) C dX12_edgeOf_32 (by decide) ?_
      refine g_goto (pc := 33) (tgt := 37) C dX12_edgeOf_33 (by decide) ?_
      exact g_sub [0, 1, 2] rfl (tjX12_edgeOf_37 C hd h hE)
/-- EyeTrainerModel.edgeOf(I)I -/
def fX12_edgeOf (T : Sh) (M : Me) (x0 : Nat) (x1 : Int32) : Option (Int32 × Me) :=
  gd (kd T x0 = 11) <| Option.bind (fX12_risenOf T M x0 x1) <| un2 fun r2 M3 => (lp FU (fun s => bX12_edgeOf_8 T M3 x0 r2 s) (1 : Int32)).bind (Sum.elim (fun x3_22 => some (x3_22, M3)) (fun _ => some ((-1 : Int32), M3)))
set_option maxHeartbeats 4000000 in
theorem kX12_edgeOf {l : Launch} {B : Bx} {d : Nat} (hd : 4 ≤ d) {T : Sh} {M : Me} {x0 : Nat} {x1 : Int32} {r : Int32} {M' : Me} (h : fX12_edgeOf T M x0 x1 = some (r, M')) : Kt l B yX12_edgeOf cX12_edgeOf 6 (some .int) d [.ref (x0), .int (x1)] T M (some (.int r)) T M' := by
  refine kt_of wX12_edgeOf (Nat.le_refl _) (Nat.le_refl _) (Nat.le_of_ble_eq_true rfl) (fun X C hR hlx hin => ?_)
  subst hlx
  replace C : Cx X B cX12_edgeOf 6 RX12 d (tp T, sl T, tp T, sl T) := C
  unfold fX12_edgeOf at h
  show G X B 6 _ _ 0 [(0, .ref (x0)), (1, .int (x1))] [] T M
  refine g_aload_n (pc := 0) C dX12_edgeOf_0 rfl 0 rfl ?_
  refine g_iload_n (pc := 1) C dX12_edgeOf_1 rfl 1 rfl ?_
  replace h := gd_some h; obtain ⟨hk1, h⟩ := h
  replace h := bnd2 h; obtain ⟨r2, M3, h1, h⟩ := h
  refine g_callVi (pc := 2) (As := [.int (x1)]) (st := []) C dX12_edgeOf_2 wX12_risenOf hk1 rfl (by decide) q_1548 q_83 q_1546 (by omega) rfl (Nat.le_of_ble_eq_true rfl) (kX12_risenOf (d := 3) (Nat.le_refl _) h1) ?_
  refine g_istore_n (pc := 5) (lo2 := [(2, .int (r2)), (0, .ref (x0)), (1, .int (x1))]) C dX12_edgeOf_5 rfl (by decide) rfl ?_
  refine g_iconst (pc := 6) (v := 1) C dX12_edgeOf_6 (by decide) ?_
  refine g_istore_n (pc := 7) (lo2 := [(3, .int ((1 : Int32))), (2, .int (r2)), (0, .ref (x0)), (1, .int (x1))]) C dX12_edgeOf_7 rfl (by decide) rfl ?_
  replace h := bndE h; rcases h with ⟨x3_22, h1, h⟩ | ⟨a1, h1, h⟩
  · refine g_sub [2, 1, 0] rfl ?_
    refine lp_G2 (P := PX12_edgeOf_8 X B _ _ T M3 x0 r2) (E := EX12_edgeOf_8 X B _ _ T M3 x0 r2) (tbX12_edgeOf_8 C hd) h1 ?_
    show G X B 6 _ _ 78 [(3, .int (x3_22))] [] T M3
    refine g_iload_n (pc := 78) C dX12_edgeOf_78 rfl 0 rfl ?_
    obtain ⟨rfl, rfl⟩ := Prod.mk.inj (Option.some.inj h)
    exact g_iret C hR dX12_edgeOf_79
  · refine g_sub [2, 1, 0] rfl ?_
    refine lp_G2 (P := PX12_edgeOf_8 X B _ _ T M3 x0 r2) (E := EX12_edgeOf_8 X B _ _ T M3 x0 r2) (tbX12_edgeOf_8 C hd) h1 ?_
    show G X B 6 _ _ 86 [] [] T M3
    refine g_iconst (pc := 86) (v := (-1)) C dX12_edgeOf_86 (by decide) ?_
    obtain ⟨rfl, rfl⟩ := Prod.mk.inj (Option.some.inj h)
    exact g_iret C hR dX12_edgeOf_87
theorem dX12_stores_0 : decode cX12_stores 0 = .ok (.iconst 0, 1) := by decide +kernel
theorem dX12_stores_1 : decode cX12_stores 1 = .ok (.istore_n 1, 1) := by decide +kernel
theorem dX12_stores_2 : decode cX12_stores 2 = .ok (.iload_n 1, 1) := by decide +kernel
theorem dX12_stores_3 : decode cX12_stores 3 = .ok (.bipush 8, 2) := by decide +kernel
theorem dX12_stores_5 : decode cX12_stores 5 = .ok (.if_icmp .ge 24, 3) := by decide +kernel
theorem dX12_stores_8 : decode cX12_stores 8 = .ok (.aload_n 0, 1) := by decide +kernel
theorem dX12_stores_9 : decode cX12_stores 9 = .ok (.getfield 39, 3) := by decide +kernel
theorem dX12_stores_12 : decode cX12_stores 12 = .ok (.iload_n 1, 1) := by decide +kernel
theorem dX12_stores_13 : decode cX12_stores 13 = .ok (.aload_n 0, 1) := by decide +kernel
theorem dX12_stores_14 : decode cX12_stores 14 = .ok (.getfield 13, 3) := by decide +kernel
theorem dX12_stores_17 : decode cX12_stores 17 = .ok (.bipush 42, 2) := by decide +kernel
theorem dX12_stores_19 : decode cX12_stores 19 = .ok (.iload_n 1, 1) := by decide +kernel
theorem dX12_stores_20 : decode cX12_stores 20 = .ok (.iadd, 1) := by decide +kernel
theorem dX12_stores_21 : decode cX12_stores 21 = .ok (.iaload, 1) := by decide +kernel
theorem dX12_stores_22 : decode cX12_stores 22 = .ok (.iastore, 1) := by decide +kernel
theorem dX12_stores_23 : decode cX12_stores 23 = .ok (.iinc 1 1, 3) := by decide +kernel
theorem dX12_stores_26 : decode cX12_stores 26 = .ok (.goto (-24), 3) := by decide +kernel
theorem dX12_stores_29 : decode cX12_stores 29 = .ok (.return_, 1) := by decide +kernel
theorem wX12_stores : Mw yX12_stores cX12_stores 2 none 0 := ⟨q_1561, q_130, by decide, ⟨by decide +kernel, by decide +kernel⟩, by decide +kernel, by decide +kernel⟩
-- a loop of EyeTrainerModel.stores at 2
def bX12_stores_2 (T : Sh) (x0 : Nat) (x1 : Int32) (M : Me) : Option ((Int32 × Me) ⊕ (Me)) :=
  if (8 : Int32) ≤ x1 then (some (.inr M)) else (gd (kd T x0 = 11) <| Option.bind (gR M x0 29) fun a3 => Option.bind (gR M x0 1) fun a4 => gd (kd T a4 = 13) <| gv ((42 : Int32) + x1) (ln T a4) <| gd (kd T a3 = 13) <| gv x1 (ln T a3) <| lt (pI M a3 (Int32.toNatClampNeg x1) (gI M a4 (Int32.toNatClampNeg ((42 : Int32) + x1)))) fun M9 => lt (x1 + (1 : Int32)) fun v10 => some (.inl (v10, M9)))
def PX12_stores_2 (X : Fx) (B : Bx) (Z : Nat × Nat × Nat × Nat) (Q : State → Prop) (T : Sh) (x0 : Nat) (s : Int32 × Me) : Prop := G X B 2 Z Q 2 [(0, .ref (x0)), (1, .int (s.1))] [] T s.2
def EX12_stores_2 (X : Fx) (B : Bx) (Z : Nat × Nat × Nat × Nat) (Q : State → Prop) (T : Sh) (x0 : Nat) (r : Me) : Prop := G X B 2 Z Q 29 [] [] T r
set_option maxHeartbeats 4000000 in
theorem tbX12_stores_2 {X : Fx} {B : Bx} {Z : Nat × Nat × Nat × Nat} {Q : State → Prop} {d : Nat} {T : Sh} (C : Cx X B cX12_stores 2 RX12 d Z) (hd : 0 ≤ d) {x0 : Nat} : ∀ (s : Int32 × Me) (o : (Int32 × Me) ⊕ (Me)), bX12_stores_2 T x0 s.1 s.2 = some o → lpE (PX12_stores_2 X B Z Q T x0) (EX12_stores_2 X B Z Q T x0) o → PX12_stores_2 X B Z Q T x0 s := by
  rintro ⟨x1, M⟩ o h hE
  replace h : bX12_stores_2 T x0 x1 M = some o := h
  unfold bX12_stores_2 at h
  show G X B 2 Z Q 2 [(0, .ref (x0)), (1, .int (x1))] [] T M
  refine g_iload_n (pc := 2) C dX12_stores_2 rfl 1 rfl ?_
  refine g_bipush (pc := 3) (v := 8) C dX12_stores_3 (by decide) ?_
  refine g_icmp_ge (pc := 5) (tgt := 29) C dX12_stores_5 (by decide) (fun c1 => ?_) (fun c1 => ?_)
  · replace h := ifp c1 h
    obtain rfl := Option.some.inj h
    exact g_sub [] rfl (show G X B 2 Z Q 29 [] [] T M from hE)
  · replace h := ifn c1 h
    refine g_aload_n (pc := 8) C dX12_stores_8 rfl 0 rfl ?_
    replace h := gd_some h; obtain ⟨hk2, h⟩ := h
    refine g_get (pc := 9) (v := va_rf (gR M x0 29)) C dX12_stores_9 kX12 hk2 29 (by decide) q_1256 rfl ?_
    replace h := bnd h; obtain ⟨a3, ea3, h⟩ := h
    refine g_refq ea3 ?_
    refine g_iload_n (pc := 12) C dX12_stores_12 rfl 1 rfl ?_
    refine g_aload_n (pc := 13) C dX12_stores_13 rfl 0 rfl ?_
    refine g_get (pc := 14) (v := va_rf (gR M x0 1)) C dX12_stores_14 kX12 hk2 1 (by decide) q_1228 rfl ?_
    replace h := bnd h; obtain ⟨a4, ea4, h⟩ := h
    refine g_refq ea4 ?_
    refine g_bipush (pc := 17) (v := 42) C dX12_stores_17 (by decide) ?_
    refine g_iload_n (pc := 19) C dX12_stores_19 rfl 1 rfl ?_
    refine g_iadd (pc := 20) C dX12_stores_20 ?_
    replace h := gd_some h; obtain ⟨hk5, h⟩ := h
    replace h := gv_some h; obtain ⟨hi6, h⟩ := h
    refine g_iald (pc := 21) C dX12_stores_21 hk5 hi6 ?_
    replace h := gd_some h; obtain ⟨hk7, h⟩ := h
    replace h := gv_some h; obtain ⟨hi8, h⟩ := h
    refine g_iast (pc := 22) C dX12_stores_22 hk7 hi8 ?_
    refine g_mem (fun M9 eM9 => ?_)
    replace h := lt_at eM9 h
    obtain ⟨v10, ev10⟩ : ∃ y : Int32, y = x1 + (1 : Int32) := ⟨_, rfl⟩
    replace h := lt_at ev10 h
    refine g_iinc (pc := 23) (v := v10) (k := 1) (lo2 := [(1, .int (v10)), (0, .ref (x0))]) C dX12_stores_23 rfl (by rw [ev10]; rfl) (by decide) rfl ?_
    refine g_goto (pc := 26) (tgt := 2) C dX12_stores_26 (by decide) ?_
    obtain rfl := Option.some.inj h
    exact g_sub [1, 0] rfl (show G X B 2 Z Q 2 [(0, .ref (x0)), (1, .int (v10))] [] T M9 from hE)
/-- EyeTrainerModel.stores()V -/
def fX12_stores (T : Sh) (M : Me) (x0 : Nat) : Option (Unit × Me) :=
  (lp FU (fun s => bX12_stores_2 T x0 s.1 s.2) ((0 : Int32), M)).bind (fun M11 => some ((), M11))
set_option maxHeartbeats 4000000 in
theorem kX12_stores {l : Launch} {B : Bx} {d : Nat} (hd : 0 ≤ d) {T : Sh} {M : Me} {x0 : Nat} {M' : Me} (h : fX12_stores T M x0 = some ((), M')) : Kt l B yX12_stores cX12_stores 2 none d [.ref (x0)] T M none T M' := by
  refine kt_of wX12_stores (Nat.le_refl _) (Nat.le_refl _) (Nat.le_of_ble_eq_true rfl) (fun X C hR hlx hin => ?_)
  subst hlx
  replace C : Cx X B cX12_stores 2 RX12 d (tp T, sl T, tp T, sl T) := C
  unfold fX12_stores at h
  show G X B 2 _ _ 0 [(0, .ref (x0))] [] T M
  refine g_iconst (pc := 0) (v := 0) C dX12_stores_0 (by decide) ?_
  refine g_istore_n (pc := 1) (lo2 := [(1, .int ((0 : Int32))), (0, .ref (x0))]) C dX12_stores_1 rfl (by decide) rfl ?_
  replace h := bnd h; obtain ⟨M11, h1, h⟩ := h
  refine g_sub [1, 0] rfl ?_
  refine lp_G2 (P := PX12_stores_2 X B _ _ T x0) (E := EX12_stores_2 X B _ _ T x0) (tbX12_stores_2 C hd) h1 ?_
  show G X B 2 _ _ 29 [] [] T M11
  obtain ⟨-, rfl⟩ := Prod.mk.inj (Option.some.inj h)
  exact g_vret C hR dX12_stores_29
theorem dX12_isAgain_0 : decode cX12_isAgain 0 = .ok (.iconst 0, 1) := by decide +kernel
theorem dX12_isAgain_1 : decode cX12_isAgain 1 = .ok (.istore_n 1, 1) := by decide +kernel
theorem dX12_isAgain_2 : decode cX12_isAgain 2 = .ok (.iload_n 1, 1) := by decide +kernel
theorem dX12_isAgain_3 : decode cX12_isAgain 3 = .ok (.bipush 8, 2) := by decide +kernel
theorem dX12_isAgain_5 : decode cX12_isAgain 5 = .ok (.if_icmp .ge 24, 3) := by decide +kernel
theorem dX12_isAgain_8 : decode cX12_isAgain 8 = .ok (.aload_n 0, 1) := by decide +kernel
theorem dX12_isAgain_9 : decode cX12_isAgain 9 = .ok (.getfield 13, 3) := by decide +kernel
theorem dX12_isAgain_12 : decode cX12_isAgain 12 = .ok (.bipush 42, 2) := by decide +kernel
theorem dX12_isAgain_14 : decode cX12_isAgain 14 = .ok (.iload_n 1, 1) := by decide +kernel
theorem dX12_isAgain_15 : decode cX12_isAgain 15 = .ok (.iadd, 1) := by decide +kernel
theorem dX12_isAgain_16 : decode cX12_isAgain 16 = .ok (.aload_n 0, 1) := by decide +kernel
theorem dX12_isAgain_17 : decode cX12_isAgain 17 = .ok (.getfield 39, 3) := by decide +kernel
theorem dX12_isAgain_20 : decode cX12_isAgain 20 = .ok (.iload_n 1, 1) := by decide +kernel
theorem dX12_isAgain_21 : decode cX12_isAgain 21 = .ok (.iaload, 1) := by decide +kernel
theorem dX12_isAgain_22 : decode cX12_isAgain 22 = .ok (.iastore, 1) := by decide +kernel
theorem dX12_isAgain_23 : decode cX12_isAgain 23 = .ok (.iinc 1 1, 3) := by decide +kernel
theorem dX12_isAgain_26 : decode cX12_isAgain 26 = .ok (.goto (-24), 3) := by decide +kernel
theorem dX12_isAgain_29 : decode cX12_isAgain 29 = .ok (.return_, 1) := by decide +kernel
theorem wX12_isAgain : Mw yX12_isAgain cX12_isAgain 2 none 0 := ⟨q_1686, q_130, by decide, ⟨by decide +kernel, by decide +kernel⟩, by decide +kernel, by decide +kernel⟩
-- a loop of EyeTrainerModel.isAgain at 2
def bX12_isAgain_2 (T : Sh) (x0 : Nat) (x1 : Int32) (M : Me) : Option ((Int32 × Me) ⊕ (Me)) :=
  if (8 : Int32) ≤ x1 then (some (.inr M)) else (gd (kd T x0 = 11) <| Option.bind (gR M x0 1) fun a3 => Option.bind (gR M x0 29) fun a4 => gd (kd T a4 = 13) <| gv x1 (ln T a4) <| gd (kd T a3 = 13) <| gv ((42 : Int32) + x1) (ln T a3) <| lt (pI M a3 (Int32.toNatClampNeg ((42 : Int32) + x1)) (gI M a4 (Int32.toNatClampNeg x1))) fun M9 => lt (x1 + (1 : Int32)) fun v10 => some (.inl (v10, M9)))
def PX12_isAgain_2 (X : Fx) (B : Bx) (Z : Nat × Nat × Nat × Nat) (Q : State → Prop) (T : Sh) (x0 : Nat) (s : Int32 × Me) : Prop := G X B 2 Z Q 2 [(0, .ref (x0)), (1, .int (s.1))] [] T s.2
def EX12_isAgain_2 (X : Fx) (B : Bx) (Z : Nat × Nat × Nat × Nat) (Q : State → Prop) (T : Sh) (x0 : Nat) (r : Me) : Prop := G X B 2 Z Q 29 [] [] T r
set_option maxHeartbeats 4000000 in
theorem tbX12_isAgain_2 {X : Fx} {B : Bx} {Z : Nat × Nat × Nat × Nat} {Q : State → Prop} {d : Nat} {T : Sh} (C : Cx X B cX12_isAgain 2 RX12 d Z) (hd : 0 ≤ d) {x0 : Nat} : ∀ (s : Int32 × Me) (o : (Int32 × Me) ⊕ (Me)), bX12_isAgain_2 T x0 s.1 s.2 = some o → lpE (PX12_isAgain_2 X B Z Q T x0) (EX12_isAgain_2 X B Z Q T x0) o → PX12_isAgain_2 X B Z Q T x0 s := by
  rintro ⟨x1, M⟩ o h hE
  replace h : bX12_isAgain_2 T x0 x1 M = some o := h
  unfold bX12_isAgain_2 at h
  show G X B 2 Z Q 2 [(0, .ref (x0)), (1, .int (x1))] [] T M
  refine g_iload_n (pc := 2) C dX12_isAgain_2 rfl 1 rfl ?_
  refine g_bipush (pc := 3) (v := 8) C dX12_isAgain_3 (by decide) ?_
  refine g_icmp_ge (pc := 5) (tgt := 29) C dX12_isAgain_5 (by decide) (fun c1 => ?_) (fun c1 => ?_)
  · replace h := ifp c1 h
    obtain rfl := Option.some.inj h
    exact g_sub [] rfl (show G X B 2 Z Q 29 [] [] T M from hE)
  · replace h := ifn c1 h
    refine g_aload_n (pc := 8) C dX12_isAgain_8 rfl 0 rfl ?_
    replace h := gd_some h; obtain ⟨hk2, h⟩ := h
    refine g_get (pc := 9) (v := va_rf (gR M x0 1)) C dX12_isAgain_9 kX12 hk2 1 (by decide) q_1228 rfl ?_
    replace h := bnd h; obtain ⟨a3, ea3, h⟩ := h
    refine g_refq ea3 ?_
    refine g_bipush (pc := 12) (v := 42) C dX12_isAgain_12 (by decide) ?_
    refine g_iload_n (pc := 14) C dX12_isAgain_14 rfl 1 rfl ?_
    refine g_iadd (pc := 15) C dX12_isAgain_15 ?_
    refine g_aload_n (pc := 16) C dX12_isAgain_16 rfl 0 rfl ?_
    refine g_get (pc := 17) (v := va_rf (gR M x0 29)) C dX12_isAgain_17 kX12 hk2 29 (by decide) q_1256 rfl ?_
    replace h := bnd h; obtain ⟨a4, ea4, h⟩ := h
    refine g_refq ea4 ?_
    refine g_iload_n (pc := 20) C dX12_isAgain_20 rfl 1 rfl ?_
    replace h := gd_some h; obtain ⟨hk5, h⟩ := h
    replace h := gv_some h; obtain ⟨hi6, h⟩ := h
    refine g_iald (pc := 21) C dX12_isAgain_21 hk5 hi6 ?_
    replace h := gd_some h; obtain ⟨hk7, h⟩ := h
    replace h := gv_some h; obtain ⟨hi8, h⟩ := h
    refine g_iast (pc := 22) C dX12_isAgain_22 hk7 hi8 ?_
    refine g_mem (fun M9 eM9 => ?_)
    replace h := lt_at eM9 h
    obtain ⟨v10, ev10⟩ : ∃ y : Int32, y = x1 + (1 : Int32) := ⟨_, rfl⟩
    replace h := lt_at ev10 h
    refine g_iinc (pc := 23) (v := v10) (k := 1) (lo2 := [(1, .int (v10)), (0, .ref (x0))]) C dX12_isAgain_23 rfl (by rw [ev10]; rfl) (by decide) rfl ?_
    refine g_goto (pc := 26) (tgt := 2) C dX12_isAgain_26 (by decide) ?_
    obtain rfl := Option.some.inj h
    exact g_sub [1, 0] rfl (show G X B 2 Z Q 2 [(0, .ref (x0)), (1, .int (v10))] [] T M9 from hE)
/-- EyeTrainerModel.isAgain()V -/
def fX12_isAgain (T : Sh) (M : Me) (x0 : Nat) : Option (Unit × Me) :=
  (lp FU (fun s => bX12_isAgain_2 T x0 s.1 s.2) ((0 : Int32), M)).bind (fun M11 => some ((), M11))
set_option maxHeartbeats 4000000 in
theorem kX12_isAgain {l : Launch} {B : Bx} {d : Nat} (hd : 0 ≤ d) {T : Sh} {M : Me} {x0 : Nat} {M' : Me} (h : fX12_isAgain T M x0 = some ((), M')) : Kt l B yX12_isAgain cX12_isAgain 2 none d [.ref (x0)] T M none T M' := by
  refine kt_of wX12_isAgain (Nat.le_refl _) (Nat.le_refl _) (Nat.le_of_ble_eq_true rfl) (fun X C hR hlx hin => ?_)
  subst hlx
  replace C : Cx X B cX12_isAgain 2 RX12 d (tp T, sl T, tp T, sl T) := C
  unfold fX12_isAgain at h
  show G X B 2 _ _ 0 [(0, .ref (x0))] [] T M
  refine g_iconst (pc := 0) (v := 0) C dX12_isAgain_0 (by decide) ?_
  refine g_istore_n (pc := 1) (lo2 := [(1, .int ((0 : Int32))), (0, .ref (x0))]) C dX12_isAgain_1 rfl (by decide) rfl ?_
  replace h := bnd h; obtain ⟨M11, h1, h⟩ := h
  refine g_sub [1, 0] rfl ?_
  refine lp_G2 (P := PX12_isAgain_2 X B _ _ T x0) (E := EX12_isAgain_2 X B _ _ T x0) (tbX12_isAgain_2 C hd) h1 ?_
  show G X B 2 _ _ 29 [] [] T M11
  obtain ⟨-, rfl⟩ := Prod.mk.inj (Option.some.inj h)
  exact g_vret C hR dX12_isAgain_29
theorem dX12_notes_0 : decode cX12_notes 0 = .ok (.aload_n 0, 1) := by decide +kernel
theorem dX12_notes_1 : decode cX12_notes 1 = .ok (.getfield 13, 3) := by decide +kernel
theorem dX12_notes_4 : decode cX12_notes 4 = .ok (.bipush 50, 2) := by decide +kernel
theorem dX12_notes_6 : decode cX12_notes 6 = .ok (.iaload, 1) := by decide +kernel
theorem dX12_notes_7 : decode cX12_notes 7 = .ok (.bipush 10, 2) := by decide +kernel
theorem dX12_notes_9 : decode cX12_notes 9 = .ok (.if_icmp .ne 46, 3) := by decide +kernel
theorem dX12_notes_12 : decode cX12_notes 12 = .ok (.iconst 0, 1) := by decide +kernel
theorem dX12_notes_13 : decode cX12_notes 13 = .ok (.istore_n 1, 1) := by decide +kernel
theorem dX12_notes_14 : decode cX12_notes 14 = .ok (.iload_n 1, 1) := by decide +kernel
theorem dX12_notes_15 : decode cX12_notes 15 = .ok (.bipush 72, 2) := by decide +kernel
theorem dX12_notes_17 : decode cX12_notes 17 = .ok (.if_icmp .ge 27, 3) := by decide +kernel
theorem dX12_notes_20 : decode cX12_notes 20 = .ok (.aload_n 0, 1) := by decide +kernel
theorem dX12_notes_21 : decode cX12_notes 21 = .ok (.getfield 13, 3) := by decide +kernel
theorem dX12_notes_24 : decode cX12_notes 24 = .ok (.bipush 51, 2) := by decide +kernel
theorem dX12_notes_26 : decode cX12_notes 26 = .ok (.iload_n 1, 1) := by decide +kernel
theorem dX12_notes_27 : decode cX12_notes 27 = .ok (.iadd, 1) := by decide +kernel
theorem dX12_notes_28 : decode cX12_notes 28 = .ok (.aload_n 0, 1) := by decide +kernel
theorem dX12_notes_29 : decode cX12_notes 29 = .ok (.getfield 13, 3) := by decide +kernel
theorem dX12_notes_32 : decode cX12_notes 32 = .ok (.bipush 59, 2) := by decide +kernel
theorem dX12_notes_34 : decode cX12_notes 34 = .ok (.iload_n 1, 1) := by decide +kernel
theorem dX12_notes_35 : decode cX12_notes 35 = .ok (.iadd, 1) := by decide +kernel
theorem dX12_notes_36 : decode cX12_notes 36 = .ok (.iaload, 1) := by decide +kernel
theorem dX12_notes_37 : decode cX12_notes 37 = .ok (.iastore, 1) := by decide +kernel
theorem dX12_notes_38 : decode cX12_notes 38 = .ok (.iinc 1 1, 3) := by decide +kernel
theorem dX12_notes_41 : decode cX12_notes 41 = .ok (.goto (-27), 3) := by decide +kernel
theorem dX12_notes_44 : decode cX12_notes 44 = .ok (.aload_n 0, 1) := by decide +kernel
theorem dX12_notes_45 : decode cX12_notes 45 = .ok (.getfield 13, 3) := by decide +kernel
theorem dX12_notes_48 : decode cX12_notes 48 = .ok (.bipush 50, 2) := by decide +kernel
theorem dX12_notes_50 : decode cX12_notes 50 = .ok (.dup2, 1) := by decide +kernel
theorem dX12_notes_51 : decode cX12_notes 51 = .ok (.iaload, 1) := by decide +kernel
theorem dX12_notes_52 : decode cX12_notes 52 = .ok (.iconst 1, 1) := by decide +kernel
theorem dX12_notes_53 : decode cX12_notes 53 = .ok (.isub, 1) := by decide +kernel
theorem dX12_notes_54 : decode cX12_notes 54 = .ok (.iastore, 1) := by decide +kernel
theorem dX12_notes_55 : decode cX12_notes 55 = .ok (.iconst 0, 1) := by decide +kernel
theorem dX12_notes_56 : decode cX12_notes 56 = .ok (.istore_n 1, 1) := by decide +kernel
theorem dX12_notes_57 : decode cX12_notes 57 = .ok (.iload_n 1, 1) := by decide +kernel
theorem dX12_notes_58 : decode cX12_notes 58 = .ok (.bipush 8, 2) := by decide +kernel
theorem dX12_notes_60 : decode cX12_notes 60 = .ok (.if_icmp .ge 35, 3) := by decide +kernel
theorem dX12_notes_63 : decode cX12_notes 63 = .ok (.aload_n 0, 1) := by decide +kernel
theorem dX12_notes_64 : decode cX12_notes 64 = .ok (.getfield 13, 3) := by decide +kernel
theorem dX12_notes_67 : decode cX12_notes 67 = .ok (.bipush 51, 2) := by decide +kernel
theorem dX12_notes_69 : decode cX12_notes 69 = .ok (.bipush 8, 2) := by decide +kernel
theorem dX12_notes_71 : decode cX12_notes 71 = .ok (.aload_n 0, 1) := by decide +kernel
theorem dX12_notes_72 : decode cX12_notes 72 = .ok (.getfield 13, 3) := by decide +kernel
theorem dX12_notes_75 : decode cX12_notes 75 = .ok (.bipush 50, 2) := by decide +kernel
theorem dX12_notes_77 : decode cX12_notes 77 = .ok (.iaload, 1) := by decide +kernel
theorem dX12_notes_78 : decode cX12_notes 78 = .ok (.imul, 1) := by decide +kernel
theorem dX12_notes_79 : decode cX12_notes 79 = .ok (.iadd, 1) := by decide +kernel
theorem dX12_notes_80 : decode cX12_notes 80 = .ok (.iload_n 1, 1) := by decide +kernel
theorem dX12_notes_81 : decode cX12_notes 81 = .ok (.iadd, 1) := by decide +kernel
theorem dX12_notes_82 : decode cX12_notes 82 = .ok (.aload_n 0, 1) := by decide +kernel
theorem dX12_notes_83 : decode cX12_notes 83 = .ok (.getfield 39, 3) := by decide +kernel
theorem dX12_notes_86 : decode cX12_notes 86 = .ok (.iload_n 1, 1) := by decide +kernel
theorem dX12_notes_87 : decode cX12_notes 87 = .ok (.iaload, 1) := by decide +kernel
theorem dX12_notes_88 : decode cX12_notes 88 = .ok (.iastore, 1) := by decide +kernel
theorem dX12_notes_89 : decode cX12_notes 89 = .ok (.iinc 1 1, 3) := by decide +kernel
theorem dX12_notes_92 : decode cX12_notes 92 = .ok (.goto (-35), 3) := by decide +kernel
theorem dX12_notes_95 : decode cX12_notes 95 = .ok (.aload_n 0, 1) := by decide +kernel
theorem dX12_notes_96 : decode cX12_notes 96 = .ok (.getfield 13, 3) := by decide +kernel
theorem dX12_notes_99 : decode cX12_notes 99 = .ok (.bipush 50, 2) := by decide +kernel
theorem dX12_notes_101 : decode cX12_notes 101 = .ok (.dup2, 1) := by decide +kernel
theorem dX12_notes_102 : decode cX12_notes 102 = .ok (.iaload, 1) := by decide +kernel
theorem dX12_notes_103 : decode cX12_notes 103 = .ok (.iconst 1, 1) := by decide +kernel
theorem dX12_notes_104 : decode cX12_notes 104 = .ok (.iadd, 1) := by decide +kernel
theorem dX12_notes_105 : decode cX12_notes 105 = .ok (.iastore, 1) := by decide +kernel
theorem dX12_notes_106 : decode cX12_notes 106 = .ok (.return_, 1) := by decide +kernel
theorem wX12_notes : Mw yX12_notes cX12_notes 2 none 0 := ⟨q_1565, q_130, by decide, ⟨by decide +kernel, by decide +kernel⟩, by decide +kernel, by decide +kernel⟩
-- a loop of EyeTrainerModel.notes at 57
def bX12_notes_57 (T : Sh) (x0 : Nat) (x1 : Int32) (M : Me) : Option ((Int32 × Me) ⊕ (Me)) :=
  if (8 : Int32) ≤ x1 then (some (.inr M)) else (gd (kd T x0 = 11) <| Option.bind (gR M x0 1) fun a8 => Option.bind (gR M x0 1) fun a9 => gd (kd T a9 = 13) <| gv (50 : Int32) (ln T a9) <| Option.bind (gR M x0 29) fun a12 => gd (kd T a12 = 13) <| gv x1 (ln T a12) <| gd (kd T a8 = 13) <| gv (((51 : Int32) + ((8 : Int32) * (gI M a9 (Int32.toNatClampNeg (50 : Int32))))) + x1) (ln T a8) <| lt (pI M a8 (Int32.toNatClampNeg (((51 : Int32) + ((8 : Int32) * (gI M a9 (Int32.toNatClampNeg (50 : Int32))))) + x1)) (gI M a12 (Int32.toNatClampNeg x1))) fun M17 => lt (x1 + (1 : Int32)) fun v18 => some (.inl (v18, M17)))
def PX12_notes_57 (X : Fx) (B : Bx) (Z : Nat × Nat × Nat × Nat) (Q : State → Prop) (T : Sh) (x0 : Nat) (s : Int32 × Me) : Prop := G X B 2 Z Q 57 [(0, .ref (x0)), (1, .int (s.1))] [] T s.2
def EX12_notes_57 (X : Fx) (B : Bx) (Z : Nat × Nat × Nat × Nat) (Q : State → Prop) (T : Sh) (x0 : Nat) (r : Me) : Prop := G X B 2 Z Q 95 [(0, .ref (x0))] [] T r
set_option maxHeartbeats 4000000 in
theorem tbX12_notes_57 {X : Fx} {B : Bx} {Z : Nat × Nat × Nat × Nat} {Q : State → Prop} {d : Nat} {T : Sh} (C : Cx X B cX12_notes 2 RX12 d Z) (hd : 0 ≤ d) {x0 : Nat} : ∀ (s : Int32 × Me) (o : (Int32 × Me) ⊕ (Me)), bX12_notes_57 T x0 s.1 s.2 = some o → lpE (PX12_notes_57 X B Z Q T x0) (EX12_notes_57 X B Z Q T x0) o → PX12_notes_57 X B Z Q T x0 s := by
  rintro ⟨x1, M⟩ o h hE
  replace h : bX12_notes_57 T x0 x1 M = some o := h
  unfold bX12_notes_57 at h
  show G X B 2 Z Q 57 [(0, .ref (x0)), (1, .int (x1))] [] T M
  refine g_iload_n (pc := 57) C dX12_notes_57 rfl 1 rfl ?_
  refine g_bipush (pc := 58) (v := 8) C dX12_notes_58 (by decide) ?_
  refine g_icmp_ge (pc := 60) (tgt := 95) C dX12_notes_60 (by decide) (fun c6 => ?_) (fun c6 => ?_)
  · replace h := ifp c6 h
    obtain rfl := Option.some.inj h
    exact g_sub [0] rfl (show G X B 2 Z Q 95 [(0, .ref (x0))] [] T M from hE)
  · replace h := ifn c6 h
    refine g_aload_n (pc := 63) C dX12_notes_63 rfl 0 rfl ?_
    replace h := gd_some h; obtain ⟨hk7, h⟩ := h
    refine g_get (pc := 64) (v := va_rf (gR M x0 1)) C dX12_notes_64 kX12 hk7 1 (by decide) q_1228 rfl ?_
    replace h := bnd h; obtain ⟨a8, ea8, h⟩ := h
    refine g_refq ea8 ?_
    refine g_bipush (pc := 67) (v := 51) C dX12_notes_67 (by decide) ?_
    refine g_bipush (pc := 69) (v := 8) C dX12_notes_69 (by decide) ?_
    refine g_aload_n (pc := 71) C dX12_notes_71 rfl 0 rfl ?_
    refine g_get (pc := 72) (v := va_rf (gR M x0 1)) C dX12_notes_72 kX12 hk7 1 (by decide) q_1228 rfl ?_
    replace h := bnd h; obtain ⟨a9, ea9, h⟩ := h
    refine g_refq ea9 ?_
    refine g_bipush (pc := 75) (v := 50) C dX12_notes_75 (by decide) ?_
    replace h := gd_some h; obtain ⟨hk10, h⟩ := h
    replace h := gv_some h; obtain ⟨hi11, h⟩ := h
    refine g_iald (pc := 77) C dX12_notes_77 hk10 hi11 ?_
    refine g_imul (pc := 78) C dX12_notes_78 ?_
    refine g_iadd (pc := 79) C dX12_notes_79 ?_
    refine g_iload_n (pc := 80) C dX12_notes_80 rfl 1 rfl ?_
    refine g_iadd (pc := 81) C dX12_notes_81 ?_
    refine g_aload_n (pc := 82) C dX12_notes_82 rfl 0 rfl ?_
    refine g_get (pc := 83) (v := va_rf (gR M x0 29)) C dX12_notes_83 kX12 hk7 29 (by decide) q_1256 rfl ?_
    replace h := bnd h; obtain ⟨a12, ea12, h⟩ := h
    refine g_refq ea12 ?_
    refine g_iload_n (pc := 86) C dX12_notes_86 rfl 1 rfl ?_
    replace h := gd_some h; obtain ⟨hk13, h⟩ := h
    replace h := gv_some h; obtain ⟨hi14, h⟩ := h
    refine g_iald (pc := 87) C dX12_notes_87 hk13 hi14 ?_
    replace h := gd_some h; obtain ⟨hk15, h⟩ := h
    replace h := gv_some h; obtain ⟨hi16, h⟩ := h
    refine g_iast (pc := 88) C dX12_notes_88 hk15 hi16 ?_
    refine g_mem (fun M17 eM17 => ?_)
    replace h := lt_at eM17 h
    obtain ⟨v18, ev18⟩ : ∃ y : Int32, y = x1 + (1 : Int32) := ⟨_, rfl⟩
    replace h := lt_at ev18 h
    refine g_iinc (pc := 89) (v := v18) (k := 1) (lo2 := [(1, .int (v18)), (0, .ref (x0))]) C dX12_notes_89 rfl (by rw [ev18]; rfl) (by decide) rfl ?_
    refine g_goto (pc := 92) (tgt := 57) C dX12_notes_92 (by decide) ?_
    obtain rfl := Option.some.inj h
    exact g_sub [1, 0] rfl (show G X B 2 Z Q 57 [(0, .ref (x0)), (1, .int (v18))] [] T M17 from hE)
def jX12_notes_55 (T : Sh) (M : Me) (x0 : Nat) : Option (Unit × Me) :=
  (lp FU (fun s => bX12_notes_57 T x0 s.1 s.2) ((0 : Int32), M)).bind (fun M19 => gd (kd T x0 = 11) <| Option.bind (gR M19 x0 1) fun a21 => gd (kd T a21 = 13) <| gv (50 : Int32) (ln T a21) <| gv (50 : Int32) (ln T a21) <| lt (pI M19 a21 (Int32.toNatClampNeg (50 : Int32)) ((gI M19 a21 (Int32.toNatClampNeg (50 : Int32))) + (1 : Int32))) fun M25 => some ((), M25))
set_option maxHeartbeats 4000000 in
theorem tjX12_notes_55 {X : Fx} {B : Bx} {Z : Nat × Nat × Nat × Nat} {d : Nat} {T : Sh} {M : Me} {x0 : Nat} {M' : Me} (C : Cx X B cX12_notes 2 RX12 d Z) (hR : Rx X none) (hd : 0 ≤ d) (h : jX12_notes_55 T M x0 = some ((), M')) : G X B 2 Z (Qf X B Z none T M') 55 [(0, .ref (x0))] [] T M := by
  unfold jX12_notes_55 at h
  refine g_iconst (pc := 55) (v := 0) C dX12_notes_55 (by decide) ?_
  refine g_istore_n (pc := 56) (lo2 := [(1, .int ((0 : Int32))), (0, .ref (x0))]) C dX12_notes_56 rfl (by decide) rfl ?_
  replace h := bnd h; obtain ⟨M19, h1, h⟩ := h
  refine g_sub [1, 0] rfl ?_
  refine lp_G2 (P := PX12_notes_57 X B _ _ T x0) (E := EX12_notes_57 X B _ _ T x0) (tbX12_notes_57 C hd) h1 ?_
  show G X B 2 _ _ 95 [(0, .ref (x0))] [] T M19
  refine g_aload_n (pc := 95) C dX12_notes_95 rfl 0 rfl ?_
  replace h := gd_some h; obtain ⟨hk20, h⟩ := h
  refine g_get (pc := 96) (v := va_rf (gR M19 x0 1)) C dX12_notes_96 kX12 hk20 1 (by decide) q_1228 rfl ?_
  replace h := bnd h; obtain ⟨a21, ea21, h⟩ := h
  refine g_refq ea21 ?_
  refine g_bipush (pc := 99) (v := 50) C dX12_notes_99 (by decide) ?_
  refine g_dup2 (pc := 101) C dX12_notes_101 rfl rfl ?_
  replace h := gd_some h; obtain ⟨hk22, h⟩ := h
  replace h := gv_some h; obtain ⟨hi23, h⟩ := h
  refine g_iald (pc := 102) C dX12_notes_102 hk22 hi23 ?_
  refine g_iconst (pc := 103) (v := 1) C dX12_notes_103 (by decide) ?_
  refine g_iadd (pc := 104) C dX12_notes_104 ?_
  replace h := gv_some h; obtain ⟨hi24, h⟩ := h
  refine g_iast (pc := 105) C dX12_notes_105 hk22 hi24 ?_
  refine g_mem (fun M25 eM25 => ?_)
  replace h := lt_at eM25 h
  obtain ⟨-, rfl⟩ := Prod.mk.inj (Option.some.inj h)
  exact g_vret C hR dX12_notes_106
-- a loop of EyeTrainerModel.notes at 14
def bX12_notes_14 (T : Sh) (x0 : Nat) (x1 : Int32) (M : Me) : Option ((Int32 × Me) ⊕ (Me)) :=
  if (72 : Int32) ≤ x1 then (some (.inr M)) else (gd (kd T x0 = 11) <| Option.bind (gR M x0 1) fun a28 => Option.bind (gR M x0 1) fun a29 => gd (kd T a29 = 13) <| gv ((59 : Int32) + x1) (ln T a29) <| gd (kd T a28 = 13) <| gv ((51 : Int32) + x1) (ln T a28) <| lt (pI M a28 (Int32.toNatClampNeg ((51 : Int32) + x1)) (gI M a29 (Int32.toNatClampNeg ((59 : Int32) + x1)))) fun M34 => lt (x1 + (1 : Int32)) fun v35 => some (.inl (v35, M34)))
def PX12_notes_14 (X : Fx) (B : Bx) (Z : Nat × Nat × Nat × Nat) (Q : State → Prop) (T : Sh) (x0 : Nat) (s : Int32 × Me) : Prop := G X B 2 Z Q 14 [(0, .ref (x0)), (1, .int (s.1))] [] T s.2
def EX12_notes_14 (X : Fx) (B : Bx) (Z : Nat × Nat × Nat × Nat) (Q : State → Prop) (T : Sh) (x0 : Nat) (r : Me) : Prop := G X B 2 Z Q 44 [(0, .ref (x0))] [] T r
set_option maxHeartbeats 4000000 in
theorem tbX12_notes_14 {X : Fx} {B : Bx} {Z : Nat × Nat × Nat × Nat} {Q : State → Prop} {d : Nat} {T : Sh} (C : Cx X B cX12_notes 2 RX12 d Z) (hd : 0 ≤ d) {x0 : Nat} : ∀ (s : Int32 × Me) (o : (Int32 × Me) ⊕ (Me)), bX12_notes_14 T x0 s.1 s.2 = some o → lpE (PX12_notes_14 X B Z Q T x0) (EX12_notes_14 X B Z Q T x0) o → PX12_notes_14 X B Z Q T x0 s := by
  rintro ⟨x1, M⟩ o h hE
  replace h : bX12_notes_14 T x0 x1 M = some o := h
  unfold bX12_notes_14 at h
  show G X B 2 Z Q 14 [(0, .ref (x0)), (1, .int (x1))] [] T M
  refine g_iload_n (pc := 14) C dX12_notes_14 rfl 1 rfl ?_
  refine g_bipush (pc := 15) (v := 72) C dX12_notes_15 (by decide) ?_
  refine g_icmp_ge (pc := 17) (tgt := 44) C dX12_notes_17 (by decide) (fun c26 => ?_) (fun c26 => ?_)
  · replace h := ifp c26 h
    obtain rfl := Option.some.inj h
    exact g_sub [0] rfl (show G X B 2 Z Q 44 [(0, .ref (x0))] [] T M from hE)
  · replace h := ifn c26 h
    refine g_aload_n (pc := 20) C dX12_notes_20 rfl 0 rfl ?_
    replace h := gd_some h; obtain ⟨hk27, h⟩ := h
    refine g_get (pc := 21) (v := va_rf (gR M x0 1)) C dX12_notes_21 kX12 hk27 1 (by decide) q_1228 rfl ?_
    replace h := bnd h; obtain ⟨a28, ea28, h⟩ := h
    refine g_refq ea28 ?_
    refine g_bipush (pc := 24) (v := 51) C dX12_notes_24 (by decide) ?_
    refine g_iload_n (pc := 26) C dX12_notes_26 rfl 1 rfl ?_
    refine g_iadd (pc := 27) C dX12_notes_27 ?_
    refine g_aload_n (pc := 28) C dX12_notes_28 rfl 0 rfl ?_
    refine g_get (pc := 29) (v := va_rf (gR M x0 1)) C dX12_notes_29 kX12 hk27 1 (by decide) q_1228 rfl ?_
    replace h := bnd h; obtain ⟨a29, ea29, h⟩ := h
    refine g_refq ea29 ?_
    refine g_bipush (pc := 32) (v := 59) C dX12_notes_32 (by decide) ?_
    refine g_iload_n (pc := 34) C dX12_notes_34 rfl 1 rfl ?_
    refine g_iadd (pc := 35) C dX12_notes_35 ?_
    replace h := gd_some h; obtain ⟨hk30, h⟩ := h
    replace h := gv_some h; obtain ⟨hi31, h⟩ := h
    refine g_iald (pc := 36) C dX12_notes_36 hk30 hi31 ?_
    replace h := gd_some h; obtain ⟨hk32, h⟩ := h
    replace h := gv_some h; obtain ⟨hi33, h⟩ := h
    refine g_iast (pc := 37) C dX12_notes_37 hk32 hi33 ?_
    refine g_mem (fun M34 eM34 => ?_)
    replace h := lt_at eM34 h
    obtain ⟨v35, ev35⟩ : ∃ y : Int32, y = x1 + (1 : Int32) := ⟨_, rfl⟩
    replace h := lt_at ev35 h
    refine g_iinc (pc := 38) (v := v35) (k := 1) (lo2 := [(1, .int (v35)), (0, .ref (x0))]) C dX12_notes_38 rfl (by rw [ev35]; rfl) (by decide) rfl ?_
    refine g_goto (pc := 41) (tgt := 14) C dX12_notes_41 (by decide) ?_
    obtain rfl := Option.some.inj h
    exact g_sub [1, 0] rfl (show G X B 2 Z Q 14 [(0, .ref (x0)), (1, .int (v35))] [] T M34 from hE)
/-- EyeTrainerModel.notes()V -/
def fX12_notes (T : Sh) (M : Me) (x0 : Nat) : Option (Unit × Me) :=
  gd (kd T x0 = 11) <| Option.bind (gR M x0 1) fun a2 => gd (kd T a2 = 13) <| gv (50 : Int32) (ln T a2) <| if (gI M a2 (Int32.toNatClampNeg (50 : Int32))) = (10 : Int32) then ((lp FU (fun s => bX12_notes_14 T x0 s.1 s.2) ((0 : Int32), M)).bind (fun M36 => Option.bind (gR M36 x0 1) fun a37 => gd (kd T a37 = 13) <| gv (50 : Int32) (ln T a37) <| gv (50 : Int32) (ln T a37) <| lt (pI M36 a37 (Int32.toNatClampNeg (50 : Int32)) ((gI M36 a37 (Int32.toNatClampNeg (50 : Int32))) - (1 : Int32))) fun M41 => jX12_notes_55 T M41 x0)) else (jX12_notes_55 T M x0)
set_option maxHeartbeats 4000000 in
theorem kX12_notes {l : Launch} {B : Bx} {d : Nat} (hd : 0 ≤ d) {T : Sh} {M : Me} {x0 : Nat} {M' : Me} (h : fX12_notes T M x0 = some ((), M')) : Kt l B yX12_notes cX12_notes 2 none d [.ref (x0)] T M none T M' := by
  refine kt_of wX12_notes (Nat.le_refl _) (Nat.le_refl _) (Nat.le_of_ble_eq_true rfl) (fun X C hR hlx hin => ?_)
  subst hlx
  replace C : Cx X B cX12_notes 2 RX12 d (tp T, sl T, tp T, sl T) := C
  unfold fX12_notes at h
  show G X B 2 _ _ 0 [(0, .ref (x0))] [] T M
  refine g_aload_n (pc := 0) C dX12_notes_0 rfl 0 rfl ?_
  replace h := gd_some h; obtain ⟨hk1, h⟩ := h
  refine g_get (pc := 1) (v := va_rf (gR M x0 1)) C dX12_notes_1 kX12 hk1 1 (by decide) q_1228 rfl ?_
  replace h := bnd h; obtain ⟨a2, ea2, h⟩ := h
  refine g_refq ea2 ?_
  refine g_bipush (pc := 4) (v := 50) C dX12_notes_4 (by decide) ?_
  replace h := gd_some h; obtain ⟨hk3, h⟩ := h
  replace h := gv_some h; obtain ⟨hi4, h⟩ := h
  refine g_iald (pc := 6) C dX12_notes_6 hk3 hi4 ?_
  refine g_bipush (pc := 7) (v := 10) C dX12_notes_7 (by decide) ?_
  refine g_icmp_ne (pc := 9) (tgt := 55) C dX12_notes_9 (by decide) (fun c5 => ?_) (fun c5 => ?_)
  · replace h := ifn c5 h
    exact g_sub [0] rfl (tjX12_notes_55 C hR hd h)
  · replace h := ifp c5 h
    refine g_iconst (pc := 12) (v := 0) C dX12_notes_12 (by decide) ?_
    refine g_istore_n (pc := 13) (lo2 := [(1, .int ((0 : Int32))), (0, .ref (x0))]) C dX12_notes_13 rfl (by decide) rfl ?_
    replace h := bnd h; obtain ⟨M36, h1, h⟩ := h
    refine g_sub [1, 0] rfl ?_
    refine lp_G2 (P := PX12_notes_14 X B _ _ T x0) (E := EX12_notes_14 X B _ _ T x0) (tbX12_notes_14 C hd) h1 ?_
    show G X B 2 _ _ 44 [(0, .ref (x0))] [] T M36
    refine g_aload_n (pc := 44) C dX12_notes_44 rfl 0 rfl ?_
    refine g_get (pc := 45) (v := va_rf (gR M36 x0 1)) C dX12_notes_45 kX12 hk1 1 (by decide) q_1228 rfl ?_
    replace h := bnd h; obtain ⟨a37, ea37, h⟩ := h
    refine g_refq ea37 ?_
    refine g_bipush (pc := 48) (v := 50) C dX12_notes_48 (by decide) ?_
    refine g_dup2 (pc := 50) C dX12_notes_50 rfl rfl ?_
    replace h := gd_some h; obtain ⟨hk38, h⟩ := h
    replace h := gv_some h; obtain ⟨hi39, h⟩ := h
    refine g_iald (pc := 51) C dX12_notes_51 hk38 hi39 ?_
    refine g_iconst (pc := 52) (v := 1) C dX12_notes_52 (by decide) ?_
    refine g_isub (pc := 53) C dX12_notes_53 ?_
    replace h := gv_some h; obtain ⟨hi40, h⟩ := h
    refine g_iast (pc := 54) C dX12_notes_54 hk38 hi40 ?_
    refine g_mem (fun M41 eM41 => ?_)
    replace h := lt_at eM41 h
    exact g_sub [0] rfl (tjX12_notes_55 C hR hd h)
theorem dX12_whyTrain_0 : decode cX12_whyTrain 0 = .ok (.aload_n 0, 1) := by decide +kernel
theorem dX12_whyTrain_1 : decode cX12_whyTrain 1 = .ok (.lload_n 1, 1) := by decide +kernel
theorem dX12_whyTrain_2 : decode cX12_whyTrain 2 = .ok (.invokevirtual 247, 3) := by decide +kernel
theorem dX12_whyTrain_5 : decode cX12_whyTrain 5 = .ok (.ifCond .eq 14, 3) := by decide +kernel
theorem dX12_whyTrain_8 : decode cX12_whyTrain 8 = .ok (.lload_n 3, 1) := by decide +kernel
theorem dX12_whyTrain_9 : decode cX12_whyTrain 9 = .ok (.lconst 0, 1) := by decide +kernel
theorem dX12_whyTrain_10 : decode cX12_whyTrain 10 = .ok (.ldc2_w 307, 3) := by decide +kernel
theorem dX12_whyTrain_13 : decode cX12_whyTrain 13 = .ok (.invokestatic 139, 3) := by decide +kernel
theorem dX12_whyTrain_16 : decode cX12_whyTrain 16 = .ok (.ifCond .ne 5, 3) := by decide +kernel
theorem dX12_whyTrain_19 : decode cX12_whyTrain 19 = .ok (.iconst 1, 1) := by decide +kernel
theorem dX12_whyTrain_20 : decode cX12_whyTrain 20 = .ok (.ireturn, 1) := by decide +kernel
theorem dX12_whyTrain_21 : decode cX12_whyTrain 21 = .ok (.aload_n 0, 1) := by decide +kernel
theorem dX12_whyTrain_22 : decode cX12_whyTrain 22 = .ok (.invokevirtual 251, 3) := by decide +kernel
theorem dX12_whyTrain_25 : decode cX12_whyTrain 25 = .ok (.lload_n 3, 1) := by decide +kernel
theorem dX12_whyTrain_26 : decode cX12_whyTrain 26 = .ok (.ldc2_w 307, 3) := by decide +kernel
theorem dX12_whyTrain_29 : decode cX12_whyTrain 29 = .ok (.lcmp, 1) := by decide +kernel
theorem dX12_whyTrain_30 : decode cX12_whyTrain 30 = .ok (.ifCond .ne 46, 3) := by decide +kernel
theorem dX12_whyTrain_33 : decode cX12_whyTrain 33 = .ok (.aload_n 0, 1) := by decide +kernel
theorem dX12_whyTrain_34 : decode cX12_whyTrain 34 = .ok (.lload_n 1, 1) := by decide +kernel
theorem dX12_whyTrain_35 : decode cX12_whyTrain 35 = .ok (.l2i, 1) := by decide +kernel
theorem dX12_whyTrain_36 : decode cX12_whyTrain 36 = .ok (.invokevirtual 309, 3) := by decide +kernel
theorem dX12_whyTrain_39 : decode cX12_whyTrain 39 = .ok (.istore 5, 2) := by decide +kernel
theorem dX12_whyTrain_41 : decode cX12_whyTrain 41 = .ok (.aload_n 0, 1) := by decide +kernel
theorem dX12_whyTrain_42 : decode cX12_whyTrain 42 = .ok (.aload_n 0, 1) := by decide +kernel
theorem dX12_whyTrain_43 : decode cX12_whyTrain 43 = .ok (.getfield 13, 3) := by decide +kernel
theorem dX12_whyTrain_46 : decode cX12_whyTrain 46 = .ok (.bipush 42, 2) := by decide +kernel
theorem dX12_whyTrain_48 : decode cX12_whyTrain 48 = .ok (.lload_n 1, 1) := by decide +kernel
theorem dX12_whyTrain_49 : decode cX12_whyTrain 49 = .ok (.l2i, 1) := by decide +kernel
theorem dX12_whyTrain_50 : decode cX12_whyTrain 50 = .ok (.iadd, 1) := by decide +kernel
theorem dX12_whyTrain_51 : decode cX12_whyTrain 51 = .ok (.iaload, 1) := by decide +kernel
theorem dX12_whyTrain_52 : decode cX12_whyTrain 52 = .ok (.bipush 24, 2) := by decide +kernel
theorem dX12_whyTrain_54 : decode cX12_whyTrain 54 = .ok (.idiv, 1) := by decide +kernel
theorem dX12_whyTrain_55 : decode cX12_whyTrain 55 = .ok (.bipush 24, 2) := by decide +kernel
theorem dX12_whyTrain_57 : decode cX12_whyTrain 57 = .ok (.imul, 1) := by decide +kernel
theorem dX12_whyTrain_58 : decode cX12_whyTrain 58 = .ok (.iload 5, 2) := by decide +kernel
theorem dX12_whyTrain_60 : decode cX12_whyTrain 60 = .ok (.iadd, 1) := by decide +kernel
theorem dX12_whyTrain_61 : decode cX12_whyTrain 61 = .ok (.putfield 312, 3) := by decide +kernel
theorem dX12_whyTrain_64 : decode cX12_whyTrain 64 = .ok (.iload 5, 2) := by decide +kernel
theorem dX12_whyTrain_66 : decode cX12_whyTrain 66 = .ok (.iconst (-1), 1) := by decide +kernel
theorem dX12_whyTrain_67 : decode cX12_whyTrain 67 = .ok (.if_icmp .ne 7, 3) := by decide +kernel
theorem dX12_whyTrain_70 : decode cX12_whyTrain 70 = .ok (.iconst 2, 1) := by decide +kernel
theorem dX12_whyTrain_71 : decode cX12_whyTrain 71 = .ok (.goto 4, 3) := by decide +kernel
theorem dX12_whyTrain_74 : decode cX12_whyTrain 74 = .ok (.iconst 0, 1) := by decide +kernel
theorem dX12_whyTrain_75 : decode cX12_whyTrain 75 = .ok (.ireturn, 1) := by decide +kernel
theorem dX12_whyTrain_76 : decode cX12_whyTrain 76 = .ok (.aload_n 0, 1) := by decide +kernel
theorem dX12_whyTrain_77 : decode cX12_whyTrain 77 = .ok (.lload_n 1, 1) := by decide +kernel
theorem dX12_whyTrain_78 : decode cX12_whyTrain 78 = .ok (.l2i, 1) := by decide +kernel
theorem dX12_whyTrain_79 : decode cX12_whyTrain 79 = .ok (.invokevirtual 315, 3) := by decide +kernel
theorem dX12_whyTrain_82 : decode cX12_whyTrain 82 = .ok (.aload_n 0, 1) := by decide +kernel
theorem dX12_whyTrain_83 : decode cX12_whyTrain 83 = .ok (.invokevirtual 318, 3) := by decide +kernel
theorem dX12_whyTrain_86 : decode cX12_whyTrain 86 = .ok (.ifCond .ne 5, 3) := by decide +kernel
theorem dX12_whyTrain_89 : decode cX12_whyTrain 89 = .ok (.iconst 2, 1) := by decide +kernel
theorem dX12_whyTrain_90 : decode cX12_whyTrain 90 = .ok (.ireturn, 1) := by decide +kernel
theorem dX12_whyTrain_91 : decode cX12_whyTrain 91 = .ok (.aload_n 0, 1) := by decide +kernel
theorem dX12_whyTrain_92 : decode cX12_whyTrain 92 = .ok (.invokevirtual 321, 3) := by decide +kernel
theorem dX12_whyTrain_95 : decode cX12_whyTrain 95 = .ok (.aload_n 0, 1) := by decide +kernel
theorem dX12_whyTrain_96 : decode cX12_whyTrain 96 = .ok (.aload_n 0, 1) := by decide +kernel
theorem dX12_whyTrain_97 : decode cX12_whyTrain 97 = .ok (.invokevirtual 324, 3) := by decide +kernel
theorem dX12_whyTrain_100 : decode cX12_whyTrain 100 = .ok (.putfield 312, 3) := by decide +kernel
theorem dX12_whyTrain_103 : decode cX12_whyTrain 103 = .ok (.lload_n 3, 1) := by decide +kernel
theorem dX12_whyTrain_104 : decode cX12_whyTrain 104 = .ok (.lconst 0, 1) := by decide +kernel
theorem dX12_whyTrain_105 : decode cX12_whyTrain 105 = .ok (.lcmp, 1) := by decide +kernel
theorem dX12_whyTrain_106 : decode cX12_whyTrain 106 = .ok (.ifCond .ne 5, 3) := by decide +kernel
theorem dX12_whyTrain_109 : decode cX12_whyTrain 109 = .ok (.iconst 0, 1) := by decide +kernel
theorem dX12_whyTrain_110 : decode cX12_whyTrain 110 = .ok (.ireturn, 1) := by decide +kernel
theorem dX12_whyTrain_111 : decode cX12_whyTrain 111 = .ok (.aload_n 0, 1) := by decide +kernel
theorem dX12_whyTrain_112 : decode cX12_whyTrain 112 = .ok (.invokevirtual 327, 3) := by decide +kernel
theorem dX12_whyTrain_115 : decode cX12_whyTrain 115 = .ok (.aload_n 0, 1) := by decide +kernel
theorem dX12_whyTrain_116 : decode cX12_whyTrain 116 = .ok (.aload_n 0, 1) := by decide +kernel
theorem dX12_whyTrain_117 : decode cX12_whyTrain 117 = .ok (.getfield 304, 3) := by decide +kernel
theorem dX12_whyTrain_120 : decode cX12_whyTrain 120 = .ok (.putfield 312, 3) := by decide +kernel
theorem dX12_whyTrain_123 : decode cX12_whyTrain 123 = .ok (.iconst 0, 1) := by decide +kernel
theorem dX12_whyTrain_124 : decode cX12_whyTrain 124 = .ok (.ireturn, 1) := by decide +kernel
theorem wX12_whyTrain : Mw yX12_whyTrain cX12_whyTrain 6 (some .int) 2 := ⟨q_1573, q_130, by decide, ⟨by decide +kernel, by decide +kernel⟩, by decide +kernel, by decide +kernel⟩
/-- EyeTrainerModel.whyTrain(JJ)I -/
def fX12_whyTrain (T : Sh) (M : Me) (x0 : Nat) (x1 : Int64) (x3 : Int64) : Option (Int32 × Me) :=
  gd (kd T x0 = 11) <| Option.bind (fX12_isLane T M x0 x1) fun r2 => if r2 = 0 then (some ((1 : Int32), M)) else (Option.bind (fX12_within x3 (0 : Int64) (2 : Int64)) fun r4 => if r4 = 0 then (some ((1 : Int32), M)) else (Option.bind (fX12_laysNow T M x0) <| un2 fun _u M6 => if (lg_cmp x3 (2 : Int64)) = 0 then (Option.bind (fX12_edgeOf T M6 x0 (Int64.toInt32 x1)) <| un2 fun r17 M18 => Option.bind (gR M18 x0 1) fun a19 => gd (kd T a19 = 13) <| gv ((42 : Int32) + (Int64.toInt32 x1)) (ln T a19) <| lt (pI M18 x0 30 ((((gI M18 a19 (Int32.toNatClampNeg ((42 : Int32) + (Int64.toInt32 x1)))) / (24 : Int32)) * (24 : Int32)) + r17)) fun M22 => if r17 = (-1 : Int32) then (some ((2 : Int32), M22)) else (some ((0 : Int32), M22))) else (Option.bind (fX12_laysMap T M6 x0 (Int64.toInt32 x1)) <| un2 fun _u M8 => Option.bind (fX12_areaNow T M8 x0) fun r9 => if r9 = 0 then (some ((2 : Int32), M8)) else (Option.bind (fX12_laysRectangle T M8 x0) <| un2 fun _u M11 => Option.bind (fX12_middleNow T M11 x0) fun r12 => lt (pI M11 x0 30 r12) fun M13 => if (lg_cmp x3 (0 : Int64)) = 0 then (some ((0 : Int32), M13)) else (Option.bind (fX12_laysEllipse T M13 x0) <| un2 fun _u M15 => lt (pI M15 x0 30 (gI M15 x0 27)) fun M16 => some ((0 : Int32), M16))))))
set_option maxHeartbeats 4000000 in
theorem kX12_whyTrain {l : Launch} {B : Bx} {d : Nat} (hd : 5 ≤ d) {T : Sh} {M : Me} {x0 : Nat} {x1 : Int64} {x3 : Int64} {r : Int32} {M' : Me} (h : fX12_whyTrain T M x0 x1 x3 = some (r, M')) : Kt l B yX12_whyTrain cX12_whyTrain 6 (some .int) d [.ref (x0), .long (x1), .long (x3)] T M (some (.int r)) T M' := by
  refine kt_of wX12_whyTrain (Nat.le_refl _) (Nat.le_refl _) (Nat.le_of_ble_eq_true rfl) (fun X C hR hlx hin => ?_)
  subst hlx
  replace C : Cx X B cX12_whyTrain 6 RX12 d (tp T, sl T, tp T, sl T) := C
  unfold fX12_whyTrain at h
  show G X B 6 _ _ 0 [(0, .ref (x0)), (1, .long (x1)), (3, .long (x3))] [] T M
  refine g_aload_n (pc := 0) C dX12_whyTrain_0 rfl 0 rfl ?_
  refine g_lload_n (pc := 1) C dX12_whyTrain_1 rfl 1 rfl ?_
  replace h := gd_some h; obtain ⟨hk1, h⟩ := h
  replace h := bnd h; obtain ⟨r2, h1, h⟩ := h
  refine g_callVi (pc := 2) (As := [.long (x1)]) (st := []) C dX12_whyTrain_2 wX12_isLane hk1 rfl (by decide) q_1481 q_75 q_1479 (by omega) rfl (Nat.le_of_ble_eq_true rfl) (kX12_isLane (d := 1) (Nat.le_refl _) h1) ?_
  refine g_if_eq (pc := 5) (tgt := 19) C dX12_whyTrain_5 (by decide) (fun c3 => ?_) (fun c3 => ?_)
  · replace h := ifp c3 h
    refine g_iconst (pc := 19) (v := 1) C dX12_whyTrain_19 (by decide) ?_
    obtain ⟨rfl, rfl⟩ := Prod.mk.inj (Option.some.inj h)
    exact g_iret C hR dX12_whyTrain_20
  · replace h := ifn c3 h
    refine g_lload_n (pc := 8) C dX12_whyTrain_8 rfl 2 rfl ?_
    refine g_lconst (pc := 9) (v := 0) C dX12_whyTrain_9 rfl ?_
    refine g_ldc2 (pc := 10) C dX12_whyTrain_10 q_1574 ?_
    replace h := bnd h; obtain ⟨r4, h1, h⟩ := h
    refine g_callSi (pc := 13) (As := [.long (x3), .long ((0 : Int64)), .long ((2 : Int64))]) (st := []) C dX12_whyTrain_13 wX12_within q_1367 q_1366 (by omega) rfl (Nat.le_of_ble_eq_true rfl) (kX12_within (d := 0) (Nat.le_refl _) h1) ?_
    refine g_if_ne (pc := 16) (tgt := 21) C dX12_whyTrain_16 (by decide) (fun c5 => ?_) (fun c5 => ?_)
    · replace h := ifn c5 h
      refine g_aload_n (pc := 21) C dX12_whyTrain_21 rfl 0 rfl ?_
      replace h := bnd2 h; obtain ⟨_u, M6, h1, h⟩ := h
      refine g_callVv (pc := 22) (As := []) (st := []) C dX12_whyTrain_22 wX12_laysNow hk1 rfl (by decide) q_1485 q_76 q_1483 (by omega) rfl (Nat.le_of_ble_eq_true rfl) (kX12_laysNow (d := 3) (Nat.le_refl _) h1) ?_
      refine g_lload_n (pc := 25) C dX12_whyTrain_25 rfl 2 rfl ?_
      refine g_ldc2 (pc := 26) C dX12_whyTrain_26 q_1574 ?_
      refine g_lcmp (pc := 29) C dX12_whyTrain_29 ?_
      refine g_if_ne (pc := 30) (tgt := 76) C dX12_whyTrain_30 (by decide) (fun c7 => ?_) (fun c7 => ?_)
      · replace h := ifn c7 h
        refine g_aload_n (pc := 76) C dX12_whyTrain_76 rfl 0 rfl ?_
        refine g_lload_n (pc := 77) C dX12_whyTrain_77 rfl 1 rfl ?_
        refine g_l2i (pc := 78) C dX12_whyTrain_78 ?_
        replace h := bnd2 h; obtain ⟨_u, M8, h1, h⟩ := h
        refine g_callVv (pc := 79) (As := [.int (Int64.toInt32 x1)]) (st := []) C dX12_whyTrain_79 wX12_laysMap hk1 rfl (by decide) q_1584 q_89 q_1582 (by omega) rfl (Nat.le_of_ble_eq_true rfl) (kX12_laysMap (d := 4) (Nat.le_refl _) h1) ?_
        refine g_aload_n (pc := 82) C dX12_whyTrain_82 rfl 0 rfl ?_
        replace h := bnd h; obtain ⟨r9, h1, h⟩ := h
        refine g_callVi (pc := 83) (As := []) (st := []) C dX12_whyTrain_83 wX12_areaNow hk1 rfl (by decide) q_1588 q_90 q_1586 (by omega) rfl (Nat.le_of_ble_eq_true rfl) (kX12_areaNow (d := 1) (Nat.le_refl _) h1) ?_
        refine g_if_ne (pc := 86) (tgt := 91) C dX12_whyTrain_86 (by decide) (fun c10 => ?_) (fun c10 => ?_)
        · replace h := ifn c10 h
          refine g_aload_n (pc := 91) C dX12_whyTrain_91 rfl 0 rfl ?_
          replace h := bnd2 h; obtain ⟨_u, M11, h1, h⟩ := h
          refine g_callVv (pc := 92) (As := []) (st := []) C dX12_whyTrain_92 wX12_laysRectangle hk1 rfl (by decide) q_1595 q_91 q_1593 (by omega) rfl (Nat.le_of_ble_eq_true rfl) (kX12_laysRectangle (d := 2) (Nat.le_refl _) h1) ?_
          refine g_aload_n (pc := 95) C dX12_whyTrain_95 rfl 0 rfl ?_
          refine g_aload_n (pc := 96) C dX12_whyTrain_96 rfl 0 rfl ?_
          replace h := bnd h; obtain ⟨r12, h1, h⟩ := h
          refine g_callVi (pc := 97) (As := []) (st := [.ref (x0)]) C dX12_whyTrain_97 wX12_middleNow hk1 rfl (by decide) q_1604 q_93 q_1602 (by omega) rfl (Nat.le_of_ble_eq_true rfl) (kX12_middleNow (d := 0) (Nat.le_refl _) h1) ?_
          refine g_putI (pc := 100) C dX12_whyTrain_100 kX12 hk1 30 (by decide) rfl rfl rfl q_1257 ?_
          refine g_mem (fun M13 eM13 => ?_)
          replace h := lt_at eM13 h
          refine g_lload_n (pc := 103) C dX12_whyTrain_103 rfl 2 rfl ?_
          refine g_lconst (pc := 104) (v := 0) C dX12_whyTrain_104 rfl ?_
          refine g_lcmp (pc := 105) C dX12_whyTrain_105 ?_
          refine g_if_ne (pc := 106) (tgt := 111) C dX12_whyTrain_106 (by decide) (fun c14 => ?_) (fun c14 => ?_)
          · replace h := ifn c14 h
            refine g_aload_n (pc := 111) C dX12_whyTrain_111 rfl 0 rfl ?_
            replace h := bnd2 h; obtain ⟨_u, M15, h1, h⟩ := h
            refine g_callVv (pc := 112) (As := []) (st := []) C dX12_whyTrain_112 wX12_laysEllipse hk1 rfl (by decide) q_1608 q_94 q_1606 (by omega) rfl (Nat.le_of_ble_eq_true rfl) (kX12_laysEllipse (d := 3) (Nat.le_refl _) h1) ?_
            refine g_aload_n (pc := 115) C dX12_whyTrain_115 rfl 0 rfl ?_
            refine g_aload_n (pc := 116) C dX12_whyTrain_116 rfl 0 rfl ?_
            refine g_get (pc := 117) (v := .int (gI M15 x0 27)) C dX12_whyTrain_117 kX12 hk1 27 (by decide) q_1254 rfl ?_
            refine g_putI (pc := 120) C dX12_whyTrain_120 kX12 hk1 30 (by decide) rfl rfl rfl q_1257 ?_
            refine g_mem (fun M16 eM16 => ?_)
            replace h := lt_at eM16 h
            refine g_iconst (pc := 123) (v := 0) C dX12_whyTrain_123 (by decide) ?_
            obtain ⟨rfl, rfl⟩ := Prod.mk.inj (Option.some.inj h)
            exact g_iret C hR dX12_whyTrain_124
          · replace h := ifp c14 h
            refine g_iconst (pc := 109) (v := 0) C dX12_whyTrain_109 (by decide) ?_
            obtain ⟨rfl, rfl⟩ := Prod.mk.inj (Option.some.inj h)
            exact g_iret C hR dX12_whyTrain_110
        · replace h := ifp c10 h
          refine g_iconst (pc := 89) (v := 2) C dX12_whyTrain_89 (by decide) ?_
          obtain ⟨rfl, rfl⟩ := Prod.mk.inj (Option.some.inj h)
          exact g_iret C hR dX12_whyTrain_90
      · replace h := ifp c7 h
        refine g_aload_n (pc := 33) C dX12_whyTrain_33 rfl 0 rfl ?_
        refine g_lload_n (pc := 34) C dX12_whyTrain_34 rfl 1 rfl ?_
        refine g_l2i (pc := 35) C dX12_whyTrain_35 ?_
        replace h := bnd2 h; obtain ⟨r17, M18, h1, h⟩ := h
        refine g_callVi (pc := 36) (As := [.int (Int64.toInt32 x1)]) (st := []) C dX12_whyTrain_36 wX12_edgeOf hk1 rfl (by decide) q_1577 q_88 q_1575 (by omega) rfl (Nat.le_of_ble_eq_true rfl) (kX12_edgeOf (d := 4) (Nat.le_refl _) h1) ?_
        refine g_istore (pc := 39) (lo2 := [(5, .int (r17)), (0, .ref (x0)), (1, .long (x1)), (3, .long (x3))]) C dX12_whyTrain_39 (by decide) rfl ?_
        refine g_aload_n (pc := 41) C dX12_whyTrain_41 rfl 1 rfl ?_
        refine g_aload_n (pc := 42) C dX12_whyTrain_42 rfl 1 rfl ?_
        refine g_get (pc := 43) (v := va_rf (gR M18 x0 1)) C dX12_whyTrain_43 kX12 hk1 1 (by decide) q_1228 rfl ?_
        replace h := bnd h; obtain ⟨a19, ea19, h⟩ := h
        refine g_refq ea19 ?_
        refine g_bipush (pc := 46) (v := 42) C dX12_whyTrain_46 (by decide) ?_
        refine g_lload_n (pc := 48) C dX12_whyTrain_48 rfl 2 rfl ?_
        refine g_l2i (pc := 49) C dX12_whyTrain_49 ?_
        refine g_iadd (pc := 50) C dX12_whyTrain_50 ?_
        replace h := gd_some h; obtain ⟨hk20, h⟩ := h
        replace h := gv_some h; obtain ⟨hi21, h⟩ := h
        refine g_iald (pc := 51) C dX12_whyTrain_51 hk20 hi21 ?_
        refine g_bipush (pc := 52) (v := 24) C dX12_whyTrain_52 (by decide) ?_
        refine g_idiv (pc := 54) C dX12_whyTrain_54 (by decide) ?_
        refine g_bipush (pc := 55) (v := 24) C dX12_whyTrain_55 (by decide) ?_
        refine g_imul (pc := 57) C dX12_whyTrain_57 ?_
        refine g_iload (pc := 58) C dX12_whyTrain_58 0 rfl ?_
        refine g_iadd (pc := 60) C dX12_whyTrain_60 ?_
        refine g_putI (pc := 61) C dX12_whyTrain_61 kX12 hk1 30 (by decide) rfl rfl rfl q_1257 ?_
        refine g_mem (fun M22 eM22 => ?_)
        replace h := lt_at eM22 h
        refine g_iload (pc := 64) C dX12_whyTrain_64 0 rfl ?_
        refine g_iconst (pc := 66) (v := (-1)) C dX12_whyTrain_66 (by decide) ?_
        refine g_icmp_ne (pc := 67) (tgt := 74) C dX12_whyTrain_67 (by decide) (fun c23 => ?_) (fun c23 => ?_)
        · replace h := ifn c23 h
          refine g_iconst (pc := 74) (v := 0) C dX12_whyTrain_74 (by decide) ?_
          obtain ⟨rfl, rfl⟩ := Prod.mk.inj (Option.some.inj h)
          exact g_iret C hR dX12_whyTrain_75
        · replace h := ifp c23 h
          refine g_iconst (pc := 70) (v := 2) C dX12_whyTrain_70 (by decide) ?_
          refine g_goto (pc := 71) (tgt := 75) C dX12_whyTrain_71 (by decide) ?_
          obtain ⟨rfl, rfl⟩ := Prod.mk.inj (Option.some.inj h)
          exact g_iret C hR dX12_whyTrain_75
    · replace h := ifp c5 h
      refine g_iconst (pc := 19) (v := 1) C dX12_whyTrain_19 (by decide) ?_
      obtain ⟨rfl, rfl⟩ := Prod.mk.inj (Option.some.inj h)
      exact g_iret C hR dX12_whyTrain_20
theorem dX12_passedNow_0 : decode cX12_passedNow 0 = .ok (.aload_n 0, 1) := by decide +kernel
theorem dX12_passedNow_1 : decode cX12_passedNow 1 = .ok (.invokevirtual 251, 3) := by decide +kernel
theorem dX12_passedNow_4 : decode cX12_passedNow 4 = .ok (.iconst 0, 1) := by decide +kernel
theorem dX12_passedNow_5 : decode cX12_passedNow 5 = .ok (.istore_n 1, 1) := by decide +kernel
theorem dX12_passedNow_6 : decode cX12_passedNow 6 = .ok (.iconst 0, 1) := by decide +kernel
theorem dX12_passedNow_7 : decode cX12_passedNow 7 = .ok (.istore_n 2, 1) := by decide +kernel
theorem dX12_passedNow_8 : decode cX12_passedNow 8 = .ok (.iload_n 2, 1) := by decide +kernel
theorem dX12_passedNow_9 : decode cX12_passedNow 9 = .ok (.aload_n 0, 1) := by decide +kernel
theorem dX12_passedNow_10 : decode cX12_passedNow 10 = .ok (.getfield 13, 3) := by decide +kernel
theorem dX12_passedNow_13 : decode cX12_passedNow 13 = .ok (.iconst 3, 1) := by decide +kernel
theorem dX12_passedNow_14 : decode cX12_passedNow 14 = .ok (.iaload, 1) := by decide +kernel
theorem dX12_passedNow_15 : decode cX12_passedNow 15 = .ok (.if_icmp .ge 27, 3) := by decide +kernel
theorem dX12_passedNow_18 : decode cX12_passedNow 18 = .ok (.iload_n 1, 1) := by decide +kernel
theorem dX12_passedNow_19 : decode cX12_passedNow 19 = .ok (.aload_n 0, 1) := by decide +kernel
theorem dX12_passedNow_20 : decode cX12_passedNow 20 = .ok (.iload_n 2, 1) := by decide +kernel
theorem dX12_passedNow_21 : decode cX12_passedNow 21 = .ok (.invokevirtual 254, 3) := by decide +kernel
theorem dX12_passedNow_24 : decode cX12_passedNow 24 = .ok (.ifCond .eq 9, 3) := by decide +kernel
theorem dX12_passedNow_27 : decode cX12_passedNow 27 = .ok (.iconst 1, 1) := by decide +kernel
theorem dX12_passedNow_28 : decode cX12_passedNow 28 = .ok (.iload_n 2, 1) := by decide +kernel
theorem dX12_passedNow_29 : decode cX12_passedNow 29 = .ok (.ishl, 1) := by decide +kernel
theorem dX12_passedNow_30 : decode cX12_passedNow 30 = .ok (.goto 4, 3) := by decide +kernel
theorem dX12_passedNow_33 : decode cX12_passedNow 33 = .ok (.iconst 0, 1) := by decide +kernel
theorem dX12_passedNow_34 : decode cX12_passedNow 34 = .ok (.ior, 1) := by decide +kernel
theorem dX12_passedNow_35 : decode cX12_passedNow 35 = .ok (.istore_n 1, 1) := by decide +kernel
theorem dX12_passedNow_36 : decode cX12_passedNow 36 = .ok (.iinc 2 1, 3) := by decide +kernel
theorem dX12_passedNow_39 : decode cX12_passedNow 39 = .ok (.goto (-31), 3) := by decide +kernel
theorem dX12_passedNow_42 : decode cX12_passedNow 42 = .ok (.iload_n 1, 1) := by decide +kernel
theorem dX12_passedNow_43 : decode cX12_passedNow 43 = .ok (.ireturn, 1) := by decide +kernel
theorem wX12_passedNow : Mw yX12_passedNow cX12_passedNow 3 (some .int) 0 := ⟨q_1640, q_130, by decide, ⟨by decide +kernel, by decide +kernel⟩, by decide +kernel, by decide +kernel⟩
-- a loop of EyeTrainerModel.passedNow at 8
def bX12_passedNow_8 (T : Sh) (x0 : Nat) (x1 : Int32) (x2 : Int32) (M : Me) : Option ((Int32 × Int32 × Me) ⊕ ((Int32 × Me))) :=
  gd (kd T x0 = 11) <| Option.bind (gR M x0 1) fun a4 => gd (kd T a4 = 13) <| gv (3 : Int32) (ln T a4) <| if (gI M a4 (Int32.toNatClampNeg (3 : Int32))) ≤ x2 then (some (.inr (x1, M))) else (Option.bind (fX12_isAtPoint T M x0 x2) <| un2 fun r8 M9 => if r8 = 0 then (lt (x1 ||| (0 : Int32)) fun v11 => lt (x2 + (1 : Int32)) fun v12 => some (.inl (v11, v12, M9))) else (lt (x1 ||| ((1 : Int32) <<< (x2 &&& 31))) fun v13 => lt (x2 + (1 : Int32)) fun v14 => some (.inl (v13, v14, M9))))
def PX12_passedNow_8 (X : Fx) (B : Bx) (Z : Nat × Nat × Nat × Nat) (Q : State → Prop) (T : Sh) (x0 : Nat) (s : Int32 × Int32 × Me) : Prop := G X B 3 Z Q 8 [(0, .ref (x0)), (1, .int (s.1)), (2, .int (s.2.1))] [] T s.2.2
def EX12_passedNow_8 (X : Fx) (B : Bx) (Z : Nat × Nat × Nat × Nat) (Q : State → Prop) (T : Sh) (x0 : Nat) (r : (Int32 × Me)) : Prop := G X B 3 Z Q 42 [(1, .int (r.1))] [] T r.2
set_option maxHeartbeats 4000000 in
theorem tbX12_passedNow_8 {X : Fx} {B : Bx} {Z : Nat × Nat × Nat × Nat} {Q : State → Prop} {d : Nat} {T : Sh} (C : Cx X B cX12_passedNow 3 RX12 d Z) (hd : 4 ≤ d) {x0 : Nat} : ∀ (s : Int32 × Int32 × Me) (o : (Int32 × Int32 × Me) ⊕ ((Int32 × Me))), bX12_passedNow_8 T x0 s.1 s.2.1 s.2.2 = some o → lpE (PX12_passedNow_8 X B Z Q T x0) (EX12_passedNow_8 X B Z Q T x0) o → PX12_passedNow_8 X B Z Q T x0 s := by
  rintro ⟨x1, x2, M⟩ o h hE
  replace h : bX12_passedNow_8 T x0 x1 x2 M = some o := h
  unfold bX12_passedNow_8 at h
  show G X B 3 Z Q 8 [(0, .ref (x0)), (1, .int (x1)), (2, .int (x2))] [] T M
  refine g_iload_n (pc := 8) C dX12_passedNow_8 rfl 2 rfl ?_
  refine g_aload_n (pc := 9) C dX12_passedNow_9 rfl 0 rfl ?_
  replace h := gd_some h; obtain ⟨hk3, h⟩ := h
  refine g_get (pc := 10) (v := va_rf (gR M x0 1)) C dX12_passedNow_10 kX12 hk3 1 (by decide) q_1228 rfl ?_
  replace h := bnd h; obtain ⟨a4, ea4, h⟩ := h
  refine g_refq ea4 ?_
  refine g_iconst (pc := 13) (v := 3) C dX12_passedNow_13 (by decide) ?_
  replace h := gd_some h; obtain ⟨hk5, h⟩ := h
  replace h := gv_some h; obtain ⟨hi6, h⟩ := h
  refine g_iald (pc := 14) C dX12_passedNow_14 hk5 hi6 ?_
  refine g_icmp_ge (pc := 15) (tgt := 42) C dX12_passedNow_15 (by decide) (fun c7 => ?_) (fun c7 => ?_)
  · replace h := ifp c7 h
    obtain rfl := Option.some.inj h
    exact g_sub [1] rfl (show G X B 3 Z Q 42 [(1, .int (x1))] [] T M from hE)
  · replace h := ifn c7 h
    refine g_iload_n (pc := 18) C dX12_passedNow_18 rfl 1 rfl ?_
    refine g_aload_n (pc := 19) C dX12_passedNow_19 rfl 0 rfl ?_
    refine g_iload_n (pc := 20) C dX12_passedNow_20 rfl 2 rfl ?_
    replace h := bnd2 h; obtain ⟨r8, M9, h1, h⟩ := h
    refine g_callVi (pc := 21) (As := [.int (x2)]) (st := [.int (x1)]) C dX12_passedNow_21 wX12_isAtPoint hk3 rfl (by decide) q_1502 q_79 q_1500 (by omega) rfl (Nat.le_of_ble_eq_true rfl) (kX12_isAtPoint (d := 3) (Nat.le_refl _) h1) ?_
    refine g_if_eq (pc := 24) (tgt := 33) C dX12_passedNow_24 (by decide) (fun c10 => ?_) (fun c10 => ?_)
    · replace h := ifp c10 h
      refine g_iconst (pc := 33) (v := 0) C dX12_passedNow_33 (by decide) ?_
      refine g_ior (pc := 34) C dX12_passedNow_34 ?_
      refine g_topi (fun v11 ev11 => ?_)
      replace h := lt_at ev11 h
      refine g_istore_n (pc := 35) (lo2 := [(1, .int (v11)), (0, .ref (x0)), (2, .int (x2))]) C dX12_passedNow_35 rfl (by decide) rfl ?_
      obtain ⟨v12, ev12⟩ : ∃ y : Int32, y = x2 + (1 : Int32) := ⟨_, rfl⟩
      replace h := lt_at ev12 h
      refine g_iinc (pc := 36) (v := v12) (k := 2) (lo2 := [(2, .int (v12)), (1, .int (v11)), (0, .ref (x0))]) C dX12_passedNow_36 rfl (by rw [ev12]; rfl) (by decide) rfl ?_
      refine g_goto (pc := 39) (tgt := 8) C dX12_passedNow_39 (by decide) ?_
      obtain rfl := Option.some.inj h
      exact g_sub [2, 1, 0] rfl (show G X B 3 Z Q 8 [(0, .ref (x0)), (1, .int (v11)), (2, .int (v12))] [] T M9 from hE)
    · replace h := ifn c10 h
      refine g_iconst (pc := 27) (v := 1) C dX12_passedNow_27 (by decide) ?_
      refine g_iload_n (pc := 28) C dX12_passedNow_28 rfl 2 rfl ?_
      refine g_ishl (pc := 29) C dX12_passedNow_29 ?_
      refine g_goto (pc := 30) (tgt := 34) C dX12_passedNow_30 (by decide) ?_
      refine g_ior (pc := 34) C dX12_passedNow_34 ?_
      refine g_topi (fun v13 ev13 => ?_)
      replace h := lt_at ev13 h
      refine g_istore_n (pc := 35) (lo2 := [(1, .int (v13)), (0, .ref (x0)), (2, .int (x2))]) C dX12_passedNow_35 rfl (by decide) rfl ?_
      obtain ⟨v14, ev14⟩ : ∃ y : Int32, y = x2 + (1 : Int32) := ⟨_, rfl⟩
      replace h := lt_at ev14 h
      refine g_iinc (pc := 36) (v := v14) (k := 2) (lo2 := [(2, .int (v14)), (1, .int (v13)), (0, .ref (x0))]) C dX12_passedNow_36 rfl (by rw [ev14]; rfl) (by decide) rfl ?_
      refine g_goto (pc := 39) (tgt := 8) C dX12_passedNow_39 (by decide) ?_
      obtain rfl := Option.some.inj h
      exact g_sub [2, 1, 0] rfl (show G X B 3 Z Q 8 [(0, .ref (x0)), (1, .int (v13)), (2, .int (v14))] [] T M9 from hE)
/-- EyeTrainerModel.passedNow()I -/
def fX12_passedNow (T : Sh) (M : Me) (x0 : Nat) : Option (Int32 × Me) :=
  gd (kd T x0 = 11) <| Option.bind (fX12_laysNow T M x0) <| un2 fun _u M2 => (lp FU (fun s => bX12_passedNow_8 T x0 s.1 s.2.1 s.2.2) ((0 : Int32), (0 : Int32), M2)).bind (un2 fun x1_15 M16 => some (x1_15, M16))
set_option maxHeartbeats 4000000 in
theorem kX12_passedNow {l : Launch} {B : Bx} {d : Nat} (hd : 4 ≤ d) {T : Sh} {M : Me} {x0 : Nat} {r : Int32} {M' : Me} (h : fX12_passedNow T M x0 = some (r, M')) : Kt l B yX12_passedNow cX12_passedNow 3 (some .int) d [.ref (x0)] T M (some (.int r)) T M' := by
  refine kt_of wX12_passedNow (Nat.le_refl _) (Nat.le_refl _) (Nat.le_of_ble_eq_true rfl) (fun X C hR hlx hin => ?_)
  subst hlx
  replace C : Cx X B cX12_passedNow 3 RX12 d (tp T, sl T, tp T, sl T) := C
  unfold fX12_passedNow at h
  show G X B 3 _ _ 0 [(0, .ref (x0))] [] T M
  refine g_aload_n (pc := 0) C dX12_passedNow_0 rfl 0 rfl ?_
  replace h := gd_some h; obtain ⟨hk1, h⟩ := h
  replace h := bnd2 h; obtain ⟨_u, M2, h1, h⟩ := h
  refine g_callVv (pc := 1) (As := []) (st := []) C dX12_passedNow_1 wX12_laysNow hk1 rfl (by decide) q_1485 q_76 q_1483 (by omega) rfl (Nat.le_of_ble_eq_true rfl) (kX12_laysNow (d := 3) (Nat.le_refl _) h1) ?_
  refine g_iconst (pc := 4) (v := 0) C dX12_passedNow_4 (by decide) ?_
  refine g_istore_n (pc := 5) (lo2 := [(1, .int ((0 : Int32))), (0, .ref (x0))]) C dX12_passedNow_5 rfl (by decide) rfl ?_
  refine g_iconst (pc := 6) (v := 0) C dX12_passedNow_6 (by decide) ?_
  refine g_istore_n (pc := 7) (lo2 := [(2, .int ((0 : Int32))), (1, .int ((0 : Int32))), (0, .ref (x0))]) C dX12_passedNow_7 rfl (by decide) rfl ?_
  replace h := bnd2 h; obtain ⟨x1_15, M16, h1, h⟩ := h
  refine g_sub [2, 1, 0] rfl ?_
  refine lp_G2 (P := PX12_passedNow_8 X B _ _ T x0) (E := EX12_passedNow_8 X B _ _ T x0) (tbX12_passedNow_8 C hd) h1 ?_
  show G X B 3 _ _ 42 [(1, .int (x1_15))] [] T M16
  refine g_iload_n (pc := 42) C dX12_passedNow_42 rfl 0 rfl ?_
  obtain ⟨rfl, rfl⟩ := Prod.mk.inj (Option.some.inj h)
  exact g_iret C hR dX12_passedNow_43
theorem dX12_followedFrom_0 : decode cX12_followedFrom 0 = .ok (.aload_n 0, 1) := by decide +kernel
theorem dX12_followedFrom_1 : decode cX12_followedFrom 1 = .ok (.iload_n 1, 1) := by decide +kernel
theorem dX12_followedFrom_2 : decode cX12_followedFrom 2 = .ok (.iload_n 2, 1) := by decide +kernel
theorem dX12_followedFrom_3 : decode cX12_followedFrom 3 = .ok (.invokevirtual 229, 3) := by decide +kernel
theorem dX12_followedFrom_6 : decode cX12_followedFrom 6 = .ok (.ifCond .ne 5, 3) := by decide +kernel
theorem dX12_followedFrom_9 : decode cX12_followedFrom 9 = .ok (.iload_n 2, 1) := by decide +kernel
theorem dX12_followedFrom_10 : decode cX12_followedFrom 10 = .ok (.ireturn, 1) := by decide +kernel
theorem dX12_followedFrom_11 : decode cX12_followedFrom 11 = .ok (.aload_n 0, 1) := by decide +kernel
theorem dX12_followedFrom_12 : decode cX12_followedFrom 12 = .ok (.iload_n 1, 1) := by decide +kernel
theorem dX12_followedFrom_13 : decode cX12_followedFrom 13 = .ok (.iload_n 2, 1) := by decide +kernel
theorem dX12_followedFrom_14 : decode cX12_followedFrom 14 = .ok (.bipush 24, 2) := by decide +kernel
theorem dX12_followedFrom_16 : decode cX12_followedFrom 16 = .ok (.idiv, 1) := by decide +kernel
theorem dX12_followedFrom_17 : decode cX12_followedFrom 17 = .ok (.invokevirtual 233, 3) := by decide +kernel
theorem dX12_followedFrom_20 : decode cX12_followedFrom 20 = .ok (.istore_n 3, 1) := by decide +kernel
theorem dX12_followedFrom_21 : decode cX12_followedFrom 21 = .ok (.iload_n 2, 1) := by decide +kernel
theorem dX12_followedFrom_22 : decode cX12_followedFrom 22 = .ok (.bipush 24, 2) := by decide +kernel
theorem dX12_followedFrom_24 : decode cX12_followedFrom 24 = .ok (.irem, 1) := by decide +kernel
theorem dX12_followedFrom_25 : decode cX12_followedFrom 25 = .ok (.istore 4, 2) := by decide +kernel
theorem dX12_followedFrom_27 : decode cX12_followedFrom 27 = .ok (.iload 4, 2) := by decide +kernel
theorem dX12_followedFrom_29 : decode cX12_followedFrom 29 = .ok (.istore 5, 2) := by decide +kernel
theorem dX12_followedFrom_31 : decode cX12_followedFrom 31 = .ok (.iload 4, 2) := by decide +kernel
theorem dX12_followedFrom_33 : decode cX12_followedFrom 33 = .ok (.ifCond .le 21, 3) := by decide +kernel
theorem dX12_followedFrom_36 : decode cX12_followedFrom 36 = .ok (.iload_n 3, 1) := by decide +kernel
theorem dX12_followedFrom_37 : decode cX12_followedFrom 37 = .ok (.i2l, 1) := by decide +kernel
theorem dX12_followedFrom_38 : decode cX12_followedFrom 38 = .ok (.iload 4, 2) := by decide +kernel
theorem dX12_followedFrom_40 : decode cX12_followedFrom 40 = .ok (.iconst 1, 1) := by decide +kernel
theorem dX12_followedFrom_41 : decode cX12_followedFrom 41 = .ok (.isub, 1) := by decide +kernel
theorem dX12_followedFrom_42 : decode cX12_followedFrom 42 = .ok (.invokestatic 240, 3) := by decide +kernel
theorem dX12_followedFrom_45 : decode cX12_followedFrom 45 = .ok (.ifCond .eq 9, 3) := by decide +kernel
theorem dX12_followedFrom_48 : decode cX12_followedFrom 48 = .ok (.iinc 4 (-1), 3) := by decide +kernel
theorem dX12_followedFrom_51 : decode cX12_followedFrom 51 = .ok (.goto (-20), 3) := by decide +kernel
theorem dX12_followedFrom_54 : decode cX12_followedFrom 54 = .ok (.iload 5, 2) := by decide +kernel
theorem dX12_followedFrom_56 : decode cX12_followedFrom 56 = .ok (.bipush 23, 2) := by decide +kernel
theorem dX12_followedFrom_58 : decode cX12_followedFrom 58 = .ok (.if_icmp .ge 21, 3) := by decide +kernel
theorem dX12_followedFrom_61 : decode cX12_followedFrom 61 = .ok (.iload_n 3, 1) := by decide +kernel
theorem dX12_followedFrom_62 : decode cX12_followedFrom 62 = .ok (.i2l, 1) := by decide +kernel
theorem dX12_followedFrom_63 : decode cX12_followedFrom 63 = .ok (.iload 5, 2) := by decide +kernel
theorem dX12_followedFrom_65 : decode cX12_followedFrom 65 = .ok (.iconst 1, 1) := by decide +kernel
theorem dX12_followedFrom_66 : decode cX12_followedFrom 66 = .ok (.iadd, 1) := by decide +kernel
theorem dX12_followedFrom_67 : decode cX12_followedFrom 67 = .ok (.invokestatic 240, 3) := by decide +kernel
theorem dX12_followedFrom_70 : decode cX12_followedFrom 70 = .ok (.ifCond .eq 9, 3) := by decide +kernel
theorem dX12_followedFrom_73 : decode cX12_followedFrom 73 = .ok (.iinc 5 1, 3) := by decide +kernel
theorem dX12_followedFrom_76 : decode cX12_followedFrom 76 = .ok (.goto (-22), 3) := by decide +kernel
theorem dX12_followedFrom_79 : decode cX12_followedFrom 79 = .ok (.iload 4, 2) := by decide +kernel
theorem dX12_followedFrom_81 : decode cX12_followedFrom 81 = .ok (.iload 5, 2) := by decide +kernel
theorem dX12_followedFrom_83 : decode cX12_followedFrom 83 = .ok (.iadd, 1) := by decide +kernel
theorem dX12_followedFrom_84 : decode cX12_followedFrom 84 = .ok (.iconst 2, 1) := by decide +kernel
theorem dX12_followedFrom_85 : decode cX12_followedFrom 85 = .ok (.idiv, 1) := by decide +kernel
theorem dX12_followedFrom_86 : decode cX12_followedFrom 86 = .ok (.istore 6, 2) := by decide +kernel
theorem dX12_followedFrom_88 : decode cX12_followedFrom 88 = .ok (.iload_n 2, 1) := by decide +kernel
theorem dX12_followedFrom_89 : decode cX12_followedFrom 89 = .ok (.bipush 24, 2) := by decide +kernel
theorem dX12_followedFrom_91 : decode cX12_followedFrom 91 = .ok (.irem, 1) := by decide +kernel
theorem dX12_followedFrom_92 : decode cX12_followedFrom 92 = .ok (.istore 7, 2) := by decide +kernel
theorem dX12_followedFrom_94 : decode cX12_followedFrom 94 = .ok (.iload 6, 2) := by decide +kernel
theorem dX12_followedFrom_96 : decode cX12_followedFrom 96 = .ok (.iload 7, 2) := by decide +kernel
theorem dX12_followedFrom_98 : decode cX12_followedFrom 98 = .ok (.if_icmp .ge 9, 3) := by decide +kernel
theorem dX12_followedFrom_101 : decode cX12_followedFrom 101 = .ok (.iload_n 2, 1) := by decide +kernel
theorem dX12_followedFrom_102 : decode cX12_followedFrom 102 = .ok (.iconst 1, 1) := by decide +kernel
theorem dX12_followedFrom_103 : decode cX12_followedFrom 103 = .ok (.isub, 1) := by decide +kernel
theorem dX12_followedFrom_104 : decode cX12_followedFrom 104 = .ok (.goto 17, 3) := by decide +kernel
theorem dX12_followedFrom_107 : decode cX12_followedFrom 107 = .ok (.iload 6, 2) := by decide +kernel
theorem dX12_followedFrom_109 : decode cX12_followedFrom 109 = .ok (.iload 7, 2) := by decide +kernel
theorem dX12_followedFrom_111 : decode cX12_followedFrom 111 = .ok (.if_icmp .le 9, 3) := by decide +kernel
theorem dX12_followedFrom_114 : decode cX12_followedFrom 114 = .ok (.iload_n 2, 1) := by decide +kernel
theorem dX12_followedFrom_115 : decode cX12_followedFrom 115 = .ok (.iconst 1, 1) := by decide +kernel
theorem dX12_followedFrom_116 : decode cX12_followedFrom 116 = .ok (.iadd, 1) := by decide +kernel
theorem dX12_followedFrom_117 : decode cX12_followedFrom 117 = .ok (.goto 4, 3) := by decide +kernel
theorem dX12_followedFrom_120 : decode cX12_followedFrom 120 = .ok (.iload_n 2, 1) := by decide +kernel
theorem dX12_followedFrom_121 : decode cX12_followedFrom 121 = .ok (.ireturn, 1) := by decide +kernel
theorem wX12_followedFrom : Mw yX12_followedFrom cX12_followedFrom 8 (some .int) 2 := ⟨q_1636, q_130, by decide, ⟨by decide +kernel, by decide +kernel⟩, by decide +kernel, by decide +kernel⟩
-- a loop of EyeTrainerModel.followedFrom at 31
def bX12_followedFrom_31 (T : Sh) (M : Me) (x2 : Int32) (x3 : Int32) (x5 : Int32) (x4 : Int32) : Option ((Int32) ⊕ (Int32)) :=
  if x4 ≤ 0 then (some (.inr x4)) else (Option.bind (fX12_isIn (Int32.toInt64 x3) (x4 - (1 : Int32))) fun r9 => if r9 = 0 then (some (.inr x4)) else (lt (x4 + (-1 : Int32)) fun v11 => some (.inl v11)))
def PX12_followedFrom_31 (X : Fx) (B : Bx) (Z : Nat × Nat × Nat × Nat) (Q : State → Prop) (T : Sh) (M : Me) (x2 : Int32) (x3 : Int32) (x5 : Int32) (s : Int32) : Prop := G X B 8 Z Q 31 [(2, .int (x2)), (3, .int (x3)), (4, .int (s)), (5, .int (x5))] [] T M
def EX12_followedFrom_31 (X : Fx) (B : Bx) (Z : Nat × Nat × Nat × Nat) (Q : State → Prop) (T : Sh) (M : Me) (x2 : Int32) (x3 : Int32) (x5 : Int32) (r : Int32) : Prop := G X B 8 Z Q 54 [(2, .int (x2)), (3, .int (x3)), (4, .int (r)), (5, .int (x5))] [] T M
set_option maxHeartbeats 4000000 in
theorem tbX12_followedFrom_31 {X : Fx} {B : Bx} {Z : Nat × Nat × Nat × Nat} {Q : State → Prop} {d : Nat} {T : Sh} {M : Me} (C : Cx X B cX12_followedFrom 8 RX12 d Z) (hd : 4 ≤ d) {x2 : Int32} {x3 : Int32} {x5 : Int32} : ∀ (s : Int32) (o : (Int32) ⊕ (Int32)), bX12_followedFrom_31 T M x2 x3 x5 s = some o → lpE (PX12_followedFrom_31 X B Z Q T M x2 x3 x5) (EX12_followedFrom_31 X B Z Q T M x2 x3 x5) o → PX12_followedFrom_31 X B Z Q T M x2 x3 x5 s := by
  rintro x4 o h hE
  replace h : bX12_followedFrom_31 T M x2 x3 x5 x4 = some o := h
  unfold bX12_followedFrom_31 at h
  show G X B 8 Z Q 31 [(2, .int (x2)), (3, .int (x3)), (4, .int (x4)), (5, .int (x5))] [] T M
  refine g_iload (pc := 31) C dX12_followedFrom_31 2 rfl ?_
  refine g_if_le (pc := 33) (tgt := 54) C dX12_followedFrom_33 (by decide) (fun c8 => ?_) (fun c8 => ?_)
  · replace h := ifp c8 h
    obtain rfl := Option.some.inj h
    exact g_sub [0, 1, 2, 3] rfl (show G X B 8 Z Q 54 [(2, .int (x2)), (3, .int (x3)), (4, .int (x4)), (5, .int (x5))] [] T M from hE)
  · replace h := ifn c8 h
    refine g_iload_n (pc := 36) C dX12_followedFrom_36 rfl 1 rfl ?_
    refine g_i2l (pc := 37) C dX12_followedFrom_37 ?_
    refine g_iload (pc := 38) C dX12_followedFrom_38 2 rfl ?_
    refine g_iconst (pc := 40) (v := 1) C dX12_followedFrom_40 (by decide) ?_
    refine g_isub (pc := 41) C dX12_followedFrom_41 ?_
    replace h := bnd h; obtain ⟨r9, h1, h⟩ := h
    refine g_callSi (pc := 42) (As := [.long (Int32.toInt64 x3), .int (x4 - (1 : Int32))]) (st := []) C dX12_followedFrom_42 wX12_isIn q_1580 q_1579 (by omega) rfl (Nat.le_of_ble_eq_true rfl) (kX12_isIn (d := 0) (Nat.le_refl _) h1) ?_
    refine g_if_eq (pc := 45) (tgt := 54) C dX12_followedFrom_45 (by decide) (fun c10 => ?_) (fun c10 => ?_)
    · replace h := ifp c10 h
      obtain rfl := Option.some.inj h
      exact g_sub [0, 1, 2, 3] rfl (show G X B 8 Z Q 54 [(2, .int (x2)), (3, .int (x3)), (4, .int (x4)), (5, .int (x5))] [] T M from hE)
    · replace h := ifn c10 h
      obtain ⟨v11, ev11⟩ : ∃ y : Int32, y = x4 + (-1 : Int32) := ⟨_, rfl⟩
      replace h := lt_at ev11 h
      refine g_iinc (pc := 48) (v := v11) (k := 2) (lo2 := [(4, .int (v11)), (2, .int (x2)), (3, .int (x3)), (5, .int (x5))]) C dX12_followedFrom_48 rfl (by rw [ev11]; rfl) (by decide) rfl ?_
      refine g_goto (pc := 51) (tgt := 31) C dX12_followedFrom_51 (by decide) ?_
      obtain rfl := Option.some.inj h
      exact g_sub [1, 2, 0, 3] rfl (show G X B 8 Z Q 31 [(2, .int (x2)), (3, .int (x3)), (4, .int (v11)), (5, .int (x5))] [] T M from hE)
-- a loop of EyeTrainerModel.followedFrom at 54
def bX12_followedFrom_54 (T : Sh) (M : Me) (x2 : Int32) (x3 : Int32) (x4 : Int32) (x5 : Int32) : Option ((Int32) ⊕ (Int32)) :=
  if (23 : Int32) ≤ x5 then (some (.inr x5)) else (Option.bind (fX12_isIn (Int32.toInt64 x3) (x5 + (1 : Int32))) fun r14 => if r14 = 0 then (some (.inr x5)) else (lt (x5 + (1 : Int32)) fun v16 => some (.inl v16)))
def PX12_followedFrom_54 (X : Fx) (B : Bx) (Z : Nat × Nat × Nat × Nat) (Q : State → Prop) (T : Sh) (M : Me) (x2 : Int32) (x3 : Int32) (x4 : Int32) (s : Int32) : Prop := G X B 8 Z Q 54 [(2, .int (x2)), (3, .int (x3)), (4, .int (x4)), (5, .int (s))] [] T M
def EX12_followedFrom_54 (X : Fx) (B : Bx) (Z : Nat × Nat × Nat × Nat) (Q : State → Prop) (T : Sh) (M : Me) (x2 : Int32) (x3 : Int32) (x4 : Int32) (r : Int32) : Prop := G X B 8 Z Q 79 [(2, .int (x2)), (4, .int (x4)), (5, .int (r))] [] T M
set_option maxHeartbeats 4000000 in
theorem tbX12_followedFrom_54 {X : Fx} {B : Bx} {Z : Nat × Nat × Nat × Nat} {Q : State → Prop} {d : Nat} {T : Sh} {M : Me} (C : Cx X B cX12_followedFrom 8 RX12 d Z) (hd : 4 ≤ d) {x2 : Int32} {x3 : Int32} {x4 : Int32} : ∀ (s : Int32) (o : (Int32) ⊕ (Int32)), bX12_followedFrom_54 T M x2 x3 x4 s = some o → lpE (PX12_followedFrom_54 X B Z Q T M x2 x3 x4) (EX12_followedFrom_54 X B Z Q T M x2 x3 x4) o → PX12_followedFrom_54 X B Z Q T M x2 x3 x4 s := by
  rintro x5 o h hE
  replace h : bX12_followedFrom_54 T M x2 x3 x4 x5 = some o := h
  unfold bX12_followedFrom_54 at h
  show G X B 8 Z Q 54 [(2, .int (x2)), (3, .int (x3)), (4, .int (x4)), (5, .int (x5))] [] T M
  refine g_iload (pc := 54) C dX12_followedFrom_54 3 rfl ?_
  refine g_bipush (pc := 56) (v := 23) C dX12_followedFrom_56 (by decide) ?_
  refine g_icmp_ge (pc := 58) (tgt := 79) C dX12_followedFrom_58 (by decide) (fun c13 => ?_) (fun c13 => ?_)
  · replace h := ifp c13 h
    obtain rfl := Option.some.inj h
    exact g_sub [0, 2, 3] rfl (show G X B 8 Z Q 79 [(2, .int (x2)), (4, .int (x4)), (5, .int (x5))] [] T M from hE)
  · replace h := ifn c13 h
    refine g_iload_n (pc := 61) C dX12_followedFrom_61 rfl 1 rfl ?_
    refine g_i2l (pc := 62) C dX12_followedFrom_62 ?_
    refine g_iload (pc := 63) C dX12_followedFrom_63 3 rfl ?_
    refine g_iconst (pc := 65) (v := 1) C dX12_followedFrom_65 (by decide) ?_
    refine g_iadd (pc := 66) C dX12_followedFrom_66 ?_
    replace h := bnd h; obtain ⟨r14, h1, h⟩ := h
    refine g_callSi (pc := 67) (As := [.long (Int32.toInt64 x3), .int (x5 + (1 : Int32))]) (st := []) C dX12_followedFrom_67 wX12_isIn q_1580 q_1579 (by omega) rfl (Nat.le_of_ble_eq_true rfl) (kX12_isIn (d := 0) (Nat.le_refl _) h1) ?_
    refine g_if_eq (pc := 70) (tgt := 79) C dX12_followedFrom_70 (by decide) (fun c15 => ?_) (fun c15 => ?_)
    · replace h := ifp c15 h
      obtain rfl := Option.some.inj h
      exact g_sub [0, 2, 3] rfl (show G X B 8 Z Q 79 [(2, .int (x2)), (4, .int (x4)), (5, .int (x5))] [] T M from hE)
    · replace h := ifn c15 h
      obtain ⟨v16, ev16⟩ : ∃ y : Int32, y = x5 + (1 : Int32) := ⟨_, rfl⟩
      replace h := lt_at ev16 h
      refine g_iinc (pc := 73) (v := v16) (k := 3) (lo2 := [(5, .int (v16)), (2, .int (x2)), (3, .int (x3)), (4, .int (x4))]) C dX12_followedFrom_73 rfl (by rw [ev16]; rfl) (by decide) rfl ?_
      refine g_goto (pc := 76) (tgt := 54) C dX12_followedFrom_76 (by decide) ?_
      obtain rfl := Option.some.inj h
      exact g_sub [1, 2, 3, 0] rfl (show G X B 8 Z Q 54 [(2, .int (x2)), (3, .int (x3)), (4, .int (x4)), (5, .int (v16))] [] T M from hE)
/-- EyeTrainerModel.followedFrom(II)I -/
def fX12_followedFrom (T : Sh) (M : Me) (x0 : Nat) (x1 : Int32) (x2 : Int32) : Option (Int32 × Me) :=
  gd (kd T x0 = 11) <| Option.bind (fX12_isPassed T M x0 x1 x2) <| un2 fun r2 M3 => if r2 = 0 then (some (x2, M3)) else (Option.bind (fX12_rowOf T M3 x0 x1 (x2 / (24 : Int32))) <| un2 fun r5 M6 => lt (x2 - x2 / (24 : Int32) * (24 : Int32)) fun v7 => (lp FU (fun s => bX12_followedFrom_31 T M6 x2 r5 v7 s) v7).bind (fun x4_12 => (lp FU (fun s => bX12_followedFrom_54 T M6 x2 r5 x4_12 s) v7).bind (fun x5_17 => lt ((x4_12 + x5_17) / (2 : Int32)) fun v18 => lt (x2 - x2 / (24 : Int32) * (24 : Int32)) fun v19 => if v19 ≤ v18 then (if v18 ≤ v19 then (some (x2, M6)) else (some ((x2 + (1 : Int32)), M6))) else (some ((x2 - (1 : Int32)), M6)))))
set_option maxHeartbeats 4000000 in
theorem kX12_followedFrom {l : Launch} {B : Bx} {d : Nat} (hd : 4 ≤ d) {T : Sh} {M : Me} {x0 : Nat} {x1 : Int32} {x2 : Int32} {r : Int32} {M' : Me} (h : fX12_followedFrom T M x0 x1 x2 = some (r, M')) : Kt l B yX12_followedFrom cX12_followedFrom 8 (some .int) d [.ref (x0), .int (x1), .int (x2)] T M (some (.int r)) T M' := by
  refine kt_of wX12_followedFrom (Nat.le_refl _) (Nat.le_refl _) (Nat.le_of_ble_eq_true rfl) (fun X C hR hlx hin => ?_)
  subst hlx
  replace C : Cx X B cX12_followedFrom 8 RX12 d (tp T, sl T, tp T, sl T) := C
  unfold fX12_followedFrom at h
  show G X B 8 _ _ 0 [(0, .ref (x0)), (1, .int (x1)), (2, .int (x2))] [] T M
  refine g_aload_n (pc := 0) C dX12_followedFrom_0 rfl 0 rfl ?_
  refine g_iload_n (pc := 1) C dX12_followedFrom_1 rfl 1 rfl ?_
  refine g_iload_n (pc := 2) C dX12_followedFrom_2 rfl 2 rfl ?_
  replace h := gd_some h; obtain ⟨hk1, h⟩ := h
  replace h := bnd2 h; obtain ⟨r2, M3, h1, h⟩ := h
  refine g_callVi (pc := 3) (As := [.int (x1), .int (x2)]) (st := []) C dX12_followedFrom_3 wX12_isPassed hk1 rfl (by decide) q_1506 q_80 q_1504 (by omega) rfl (Nat.le_of_ble_eq_true rfl) (kX12_isPassed (d := 2) (Nat.le_refl _) h1) ?_
  refine g_if_ne (pc := 6) (tgt := 11) C dX12_followedFrom_6 (by decide) (fun c4 => ?_) (fun c4 => ?_)
  · replace h := ifn c4 h
    refine g_aload_n (pc := 11) C dX12_followedFrom_11 rfl 0 rfl ?_
    refine g_iload_n (pc := 12) C dX12_followedFrom_12 rfl 1 rfl ?_
    refine g_iload_n (pc := 13) C dX12_followedFrom_13 rfl 2 rfl ?_
    refine g_bipush (pc := 14) (v := 24) C dX12_followedFrom_14 (by decide) ?_
    refine g_idiv (pc := 16) C dX12_followedFrom_16 (by decide) ?_
    replace h := bnd2 h; obtain ⟨r5, M6, h1, h⟩ := h
    refine g_callVi (pc := 17) (As := [.int (x1), .int (x2 / (24 : Int32))]) (st := []) C dX12_followedFrom_17 wX12_rowOf hk1 rfl (by decide) q_1540 q_82 q_1538 (by omega) rfl (Nat.le_of_ble_eq_true rfl) (kX12_rowOf (d := 3) (Nat.le_refl _) h1) ?_
    refine g_istore_n (pc := 20) (lo2 := [(3, .int (r5)), (0, .ref (x0)), (1, .int (x1)), (2, .int (x2))]) C dX12_followedFrom_20 rfl (by decide) rfl ?_
    refine g_iload_n (pc := 21) C dX12_followedFrom_21 rfl 3 rfl ?_
    refine g_bipush (pc := 22) (v := 24) C dX12_followedFrom_22 (by decide) ?_
    refine g_irem (pc := 24) C dX12_followedFrom_24 (by decide) ?_
    refine g_topi (fun v7 ev7 => ?_)
    replace h := lt_at ev7 h
    refine g_istore (pc := 25) (lo2 := [(4, .int (v7)), (3, .int (r5)), (0, .ref (x0)), (1, .int (x1)), (2, .int (x2))]) C dX12_followedFrom_25 (by decide) rfl ?_
    refine g_iload (pc := 27) C dX12_followedFrom_27 0 rfl ?_
    refine g_istore (pc := 29) (lo2 := [(5, .int (v7)), (4, .int (v7)), (3, .int (r5)), (0, .ref (x0)), (1, .int (x1)), (2, .int (x2))]) C dX12_followedFrom_29 (by decide) rfl ?_
    replace h := bnd h; obtain ⟨x4_12, h1, h⟩ := h
    refine g_sub [5, 2, 1, 0] rfl ?_
    refine lp_G2 (P := PX12_followedFrom_31 X B _ _ T M6 x2 r5 v7) (E := EX12_followedFrom_31 X B _ _ T M6 x2 r5 v7) (tbX12_followedFrom_31 C hd) h1 ?_
    show G X B 8 _ _ 54 [(2, .int (x2)), (3, .int (r5)), (4, .int (x4_12)), (5, .int (v7))] [] T M6
    replace h := bnd h; obtain ⟨x5_17, h1, h⟩ := h
    refine g_sub [0, 1, 2, 3] rfl ?_
    refine lp_G2 (P := PX12_followedFrom_54 X B _ _ T M6 x2 r5 x4_12) (E := EX12_followedFrom_54 X B _ _ T M6 x2 r5 x4_12) (tbX12_followedFrom_54 C hd) h1 ?_
    show G X B 8 _ _ 79 [(2, .int (x2)), (4, .int (x4_12)), (5, .int (x5_17))] [] T M6
    refine g_iload (pc := 79) C dX12_followedFrom_79 1 rfl ?_
    refine g_iload (pc := 81) C dX12_followedFrom_81 2 rfl ?_
    refine g_iadd (pc := 83) C dX12_followedFrom_83 ?_
    refine g_iconst (pc := 84) (v := 2) C dX12_followedFrom_84 (by decide) ?_
    refine g_idiv (pc := 85) C dX12_followedFrom_85 (by decide) ?_
    refine g_topi (fun v18 ev18 => ?_)
    replace h := lt_at ev18 h
    refine g_istore (pc := 86) (lo2 := [(6, .int (v18)), (2, .int (x2)), (4, .int (x4_12)), (5, .int (x5_17))]) C dX12_followedFrom_86 (by decide) rfl ?_
    refine g_iload_n (pc := 88) C dX12_followedFrom_88 rfl 1 rfl ?_
    refine g_bipush (pc := 89) (v := 24) C dX12_followedFrom_89 (by decide) ?_
    refine g_irem (pc := 91) C dX12_followedFrom_91 (by decide) ?_
    refine g_topi (fun v19 ev19 => ?_)
    replace h := lt_at ev19 h
    refine g_istore (pc := 92) (lo2 := [(7, .int (v19)), (6, .int (v18)), (2, .int (x2)), (4, .int (x4_12)), (5, .int (x5_17))]) C dX12_followedFrom_92 (by decide) rfl ?_
    refine g_iload (pc := 94) C dX12_followedFrom_94 1 rfl ?_
    refine g_iload (pc := 96) C dX12_followedFrom_96 0 rfl ?_
    refine g_icmp_ge (pc := 98) (tgt := 107) C dX12_followedFrom_98 (by decide) (fun c20 => ?_) (fun c20 => ?_)
    · replace h := ifp c20 h
      refine g_iload (pc := 107) C dX12_followedFrom_107 1 rfl ?_
      refine g_iload (pc := 109) C dX12_followedFrom_109 0 rfl ?_
      refine g_icmp_le (pc := 111) (tgt := 120) C dX12_followedFrom_111 (by decide) (fun c21 => ?_) (fun c21 => ?_)
      · replace h := ifp c21 h
        refine g_iload_n (pc := 120) C dX12_followedFrom_120 rfl 2 rfl ?_
        obtain ⟨rfl, rfl⟩ := Prod.mk.inj (Option.some.inj h)
        exact g_iret C hR dX12_followedFrom_121
      · replace h := ifn c21 h
        refine g_iload_n (pc := 114) C dX12_followedFrom_114 rfl 2 rfl ?_
        refine g_iconst (pc := 115) (v := 1) C dX12_followedFrom_115 (by decide) ?_
        refine g_iadd (pc := 116) C dX12_followedFrom_116 ?_
        refine g_goto (pc := 117) (tgt := 121) C dX12_followedFrom_117 (by decide) ?_
        obtain ⟨rfl, rfl⟩ := Prod.mk.inj (Option.some.inj h)
        exact g_iret C hR dX12_followedFrom_121
    · replace h := ifn c20 h
      refine g_iload_n (pc := 101) C dX12_followedFrom_101 rfl 2 rfl ?_
      refine g_iconst (pc := 102) (v := 1) C dX12_followedFrom_102 (by decide) ?_
      refine g_isub (pc := 103) C dX12_followedFrom_103 ?_
      refine g_goto (pc := 104) (tgt := 121) C dX12_followedFrom_104 (by decide) ?_
      obtain ⟨rfl, rfl⟩ := Prod.mk.inj (Option.some.inj h)
      exact g_iret C hR dX12_followedFrom_121
  · replace h := ifp c4 h
    refine g_iload_n (pc := 9) C dX12_followedFrom_9 rfl 2 rfl ?_
    obtain ⟨rfl, rfl⟩ := Prod.mk.inj (Option.some.inj h)
    exact g_iret C hR dX12_followedFrom_10
theorem dX12_goesTick_0 : decode cX12_goesTick 0 = .ok (.aload_n 0, 1) := by decide +kernel
theorem dX12_goesTick_1 : decode cX12_goesTick 1 = .ok (.getfield 13, 3) := by decide +kernel
theorem dX12_goesTick_4 : decode cX12_goesTick 4 = .ok (.bipush 48, 2) := by decide +kernel
theorem dX12_goesTick_6 : decode cX12_goesTick 6 = .ok (.dup2, 1) := by decide +kernel
theorem dX12_goesTick_7 : decode cX12_goesTick 7 = .ok (.iaload, 1) := by decide +kernel
theorem dX12_goesTick_8 : decode cX12_goesTick 8 = .ok (.iconst 1, 1) := by decide +kernel
theorem dX12_goesTick_9 : decode cX12_goesTick 9 = .ok (.iadd, 1) := by decide +kernel
theorem dX12_goesTick_10 : decode cX12_goesTick 10 = .ok (.iastore, 1) := by decide +kernel
theorem dX12_goesTick_11 : decode cX12_goesTick 11 = .ok (.aload_n 0, 1) := by decide +kernel
theorem dX12_goesTick_12 : decode cX12_goesTick 12 = .ok (.invokevirtual 251, 3) := by decide +kernel
theorem dX12_goesTick_15 : decode cX12_goesTick 15 = .ok (.iconst 0, 1) := by decide +kernel
theorem dX12_goesTick_16 : decode cX12_goesTick 16 = .ok (.istore_n 2, 1) := by decide +kernel
theorem dX12_goesTick_17 : decode cX12_goesTick 17 = .ok (.iload_n 2, 1) := by decide +kernel
theorem dX12_goesTick_18 : decode cX12_goesTick 18 = .ok (.aload_n 0, 1) := by decide +kernel
theorem dX12_goesTick_19 : decode cX12_goesTick 19 = .ok (.getfield 13, 3) := by decide +kernel
theorem dX12_goesTick_22 : decode cX12_goesTick 22 = .ok (.iconst 3, 1) := by decide +kernel
theorem dX12_goesTick_23 : decode cX12_goesTick 23 = .ok (.iaload, 1) := by decide +kernel
theorem dX12_goesTick_24 : decode cX12_goesTick 24 = .ok (.if_icmp .ge 36, 3) := by decide +kernel
theorem dX12_goesTick_27 : decode cX12_goesTick 27 = .ok (.iload_n 1, 1) := by decide +kernel
theorem dX12_goesTick_28 : decode cX12_goesTick 28 = .ok (.ifCond .eq 32, 3) := by decide +kernel
theorem dX12_goesTick_31 : decode cX12_goesTick 31 = .ok (.aload_n 0, 1) := by decide +kernel
theorem dX12_goesTick_32 : decode cX12_goesTick 32 = .ok (.getfield 13, 3) := by decide +kernel
theorem dX12_goesTick_35 : decode cX12_goesTick 35 = .ok (.bipush 42, 2) := by decide +kernel
theorem dX12_goesTick_37 : decode cX12_goesTick 37 = .ok (.iload_n 2, 1) := by decide +kernel
theorem dX12_goesTick_38 : decode cX12_goesTick 38 = .ok (.iadd, 1) := by decide +kernel
theorem dX12_goesTick_39 : decode cX12_goesTick 39 = .ok (.aload_n 0, 1) := by decide +kernel
theorem dX12_goesTick_40 : decode cX12_goesTick 40 = .ok (.iload_n 2, 1) := by decide +kernel
theorem dX12_goesTick_41 : decode cX12_goesTick 41 = .ok (.aload_n 0, 1) := by decide +kernel
theorem dX12_goesTick_42 : decode cX12_goesTick 42 = .ok (.getfield 13, 3) := by decide +kernel
theorem dX12_goesTick_45 : decode cX12_goesTick 45 = .ok (.bipush 42, 2) := by decide +kernel
theorem dX12_goesTick_47 : decode cX12_goesTick 47 = .ok (.iload_n 2, 1) := by decide +kernel
theorem dX12_goesTick_48 : decode cX12_goesTick 48 = .ok (.iadd, 1) := by decide +kernel
theorem dX12_goesTick_49 : decode cX12_goesTick 49 = .ok (.iaload, 1) := by decide +kernel
theorem dX12_goesTick_50 : decode cX12_goesTick 50 = .ok (.invokevirtual 330, 3) := by decide +kernel
theorem dX12_goesTick_53 : decode cX12_goesTick 53 = .ok (.iastore, 1) := by decide +kernel
theorem dX12_goesTick_54 : decode cX12_goesTick 54 = .ok (.iinc 2 1, 3) := by decide +kernel
theorem dX12_goesTick_57 : decode cX12_goesTick 57 = .ok (.goto (-40), 3) := by decide +kernel
theorem dX12_goesTick_60 : decode cX12_goesTick 60 = .ok (.return_, 1) := by decide +kernel
theorem wX12_goesTick : Mw yX12_goesTick cX12_goesTick 3 none 1 := ⟨q_1632, q_130, by decide, ⟨by decide +kernel, by decide +kernel⟩, by decide +kernel, by decide +kernel⟩
-- a loop of EyeTrainerModel.goesTick at 17
def bX12_goesTick_17 (T : Sh) (x0 : Nat) (x1 : Int32) (x2 : Int32) (M : Me) : Option ((Int32 × Me) ⊕ (Me)) :=
  gd (kd T x0 = 11) <| Option.bind (gR M x0 1) fun a9 => gd (kd T a9 = 13) <| gv (3 : Int32) (ln T a9) <| if (gI M a9 (Int32.toNatClampNeg (3 : Int32))) ≤ x2 then (some (.inr M)) else (if x1 = 0 then (some (.inr M)) else (Option.bind (gR M x0 1) fun a14 => Option.bind (gR M x0 1) fun a15 => gd (kd T a15 = 13) <| gv ((42 : Int32) + x2) (ln T a15) <| Option.bind (fX12_followedFrom T M x0 x2 (gI M a15 (Int32.toNatClampNeg ((42 : Int32) + x2)))) <| un2 fun r18 M19 => gd (kd T a14 = 13) <| gv ((42 : Int32) + x2) (ln T a14) <| lt (pI M19 a14 (Int32.toNatClampNeg ((42 : Int32) + x2)) r18) fun M22 => lt (x2 + (1 : Int32)) fun v23 => some (.inl (v23, M22))))
def PX12_goesTick_17 (X : Fx) (B : Bx) (Z : Nat × Nat × Nat × Nat) (Q : State → Prop) (T : Sh) (x0 : Nat) (x1 : Int32) (s : Int32 × Me) : Prop := G X B 3 Z Q 17 [(0, .ref (x0)), (1, .int (x1)), (2, .int (s.1))] [] T s.2
def EX12_goesTick_17 (X : Fx) (B : Bx) (Z : Nat × Nat × Nat × Nat) (Q : State → Prop) (T : Sh) (x0 : Nat) (x1 : Int32) (r : Me) : Prop := G X B 3 Z Q 60 [] [] T r
set_option maxHeartbeats 4000000 in
theorem tbX12_goesTick_17 {X : Fx} {B : Bx} {Z : Nat × Nat × Nat × Nat} {Q : State → Prop} {d : Nat} {T : Sh} (C : Cx X B cX12_goesTick 3 RX12 d Z) (hd : 5 ≤ d) {x0 : Nat} {x1 : Int32} : ∀ (s : Int32 × Me) (o : (Int32 × Me) ⊕ (Me)), bX12_goesTick_17 T x0 x1 s.1 s.2 = some o → lpE (PX12_goesTick_17 X B Z Q T x0 x1) (EX12_goesTick_17 X B Z Q T x0 x1) o → PX12_goesTick_17 X B Z Q T x0 x1 s := by
  rintro ⟨x2, M⟩ o h hE
  replace h : bX12_goesTick_17 T x0 x1 x2 M = some o := h
  unfold bX12_goesTick_17 at h
  show G X B 3 Z Q 17 [(0, .ref (x0)), (1, .int (x1)), (2, .int (x2))] [] T M
  refine g_iload_n (pc := 17) C dX12_goesTick_17 rfl 2 rfl ?_
  refine g_aload_n (pc := 18) C dX12_goesTick_18 rfl 0 rfl ?_
  replace h := gd_some h; obtain ⟨hk8, h⟩ := h
  refine g_get (pc := 19) (v := va_rf (gR M x0 1)) C dX12_goesTick_19 kX12 hk8 1 (by decide) q_1228 rfl ?_
  replace h := bnd h; obtain ⟨a9, ea9, h⟩ := h
  refine g_refq ea9 ?_
  refine g_iconst (pc := 22) (v := 3) C dX12_goesTick_22 (by decide) ?_
  replace h := gd_some h; obtain ⟨hk10, h⟩ := h
  replace h := gv_some h; obtain ⟨hi11, h⟩ := h
  refine g_iald (pc := 23) C dX12_goesTick_23 hk10 hi11 ?_
  refine g_icmp_ge (pc := 24) (tgt := 60) C dX12_goesTick_24 (by decide) (fun c12 => ?_) (fun c12 => ?_)
  · replace h := ifp c12 h
    obtain rfl := Option.some.inj h
    exact g_sub [] rfl (show G X B 3 Z Q 60 [] [] T M from hE)
  · replace h := ifn c12 h
    refine g_iload_n (pc := 27) C dX12_goesTick_27 rfl 1 rfl ?_
    refine g_if_eq (pc := 28) (tgt := 60) C dX12_goesTick_28 (by decide) (fun c13 => ?_) (fun c13 => ?_)
    · replace h := ifp c13 h
      obtain rfl := Option.some.inj h
      exact g_sub [] rfl (show G X B 3 Z Q 60 [] [] T M from hE)
    · replace h := ifn c13 h
      refine g_aload_n (pc := 31) C dX12_goesTick_31 rfl 0 rfl ?_
      refine g_get (pc := 32) (v := va_rf (gR M x0 1)) C dX12_goesTick_32 kX12 hk8 1 (by decide) q_1228 rfl ?_
      replace h := bnd h; obtain ⟨a14, ea14, h⟩ := h
      refine g_refq ea14 ?_
      refine g_bipush (pc := 35) (v := 42) C dX12_goesTick_35 (by decide) ?_
      refine g_iload_n (pc := 37) C dX12_goesTick_37 rfl 2 rfl ?_
      refine g_iadd (pc := 38) C dX12_goesTick_38 ?_
      refine g_aload_n (pc := 39) C dX12_goesTick_39 rfl 0 rfl ?_
      refine g_iload_n (pc := 40) C dX12_goesTick_40 rfl 2 rfl ?_
      refine g_aload_n (pc := 41) C dX12_goesTick_41 rfl 0 rfl ?_
      refine g_get (pc := 42) (v := va_rf (gR M x0 1)) C dX12_goesTick_42 kX12 hk8 1 (by decide) q_1228 rfl ?_
      replace h := bnd h; obtain ⟨a15, ea15, h⟩ := h
      refine g_refq ea15 ?_
      refine g_bipush (pc := 45) (v := 42) C dX12_goesTick_45 (by decide) ?_
      refine g_iload_n (pc := 47) C dX12_goesTick_47 rfl 2 rfl ?_
      refine g_iadd (pc := 48) C dX12_goesTick_48 ?_
      replace h := gd_some h; obtain ⟨hk16, h⟩ := h
      replace h := gv_some h; obtain ⟨hi17, h⟩ := h
      refine g_iald (pc := 49) C dX12_goesTick_49 hk16 hi17 ?_
      replace h := bnd2 h; obtain ⟨r18, M19, h1, h⟩ := h
      refine g_callVi (pc := 50) (As := [.int (x2), .int (gI M a15 (Int32.toNatClampNeg ((42 : Int32) + x2)))]) (st := [.int ((42 : Int32) + x2), .ref (a14)]) C dX12_goesTick_50 wX12_followedFrom hk8 rfl (by decide) q_1635 q_99 q_1633 (by omega) rfl (Nat.le_of_ble_eq_true rfl) (kX12_followedFrom (d := 4) (Nat.le_refl _) h1) ?_
      replace h := gd_some h; obtain ⟨hk20, h⟩ := h
      replace h := gv_some h; obtain ⟨hi21, h⟩ := h
      refine g_iast (pc := 53) C dX12_goesTick_53 hk20 hi21 ?_
      refine g_mem (fun M22 eM22 => ?_)
      replace h := lt_at eM22 h
      obtain ⟨v23, ev23⟩ : ∃ y : Int32, y = x2 + (1 : Int32) := ⟨_, rfl⟩
      replace h := lt_at ev23 h
      refine g_iinc (pc := 54) (v := v23) (k := 2) (lo2 := [(2, .int (v23)), (0, .ref (x0)), (1, .int (x1))]) C dX12_goesTick_54 rfl (by rw [ev23]; rfl) (by decide) rfl ?_
      refine g_goto (pc := 57) (tgt := 17) C dX12_goesTick_57 (by decide) ?_
      obtain rfl := Option.some.inj h
      exact g_sub [1, 2, 0] rfl (show G X B 3 Z Q 17 [(0, .ref (x0)), (1, .int (x1)), (2, .int (v23))] [] T M22 from hE)
/-- EyeTrainerModel.goesTick(Z)V -/
def fX12_goesTick (T : Sh) (M : Me) (x0 : Nat) (x1 : Int32) : Option (Unit × Me) :=
  gd (kd T x0 = 11) <| Option.bind (gR M x0 1) fun a2 => gd (kd T a2 = 13) <| gv (48 : Int32) (ln T a2) <| gv (48 : Int32) (ln T a2) <| lt (pI M a2 (Int32.toNatClampNeg (48 : Int32)) ((gI M a2 (Int32.toNatClampNeg (48 : Int32))) + (1 : Int32))) fun M6 => Option.bind (fX12_laysNow T M6 x0) <| un2 fun _u M7 => (lp FU (fun s => bX12_goesTick_17 T x0 x1 s.1 s.2) ((0 : Int32), M7)).bind (fun M24 => some ((), M24))
set_option maxHeartbeats 4000000 in
theorem kX12_goesTick {l : Launch} {B : Bx} {d : Nat} (hd : 5 ≤ d) {T : Sh} {M : Me} {x0 : Nat} {x1 : Int32} {M' : Me} (h : fX12_goesTick T M x0 x1 = some ((), M')) : Kt l B yX12_goesTick cX12_goesTick 3 none d [.ref (x0), .int (x1)] T M none T M' := by
  refine kt_of wX12_goesTick (Nat.le_refl _) (Nat.le_refl _) (Nat.le_of_ble_eq_true rfl) (fun X C hR hlx hin => ?_)
  subst hlx
  replace C : Cx X B cX12_goesTick 3 RX12 d (tp T, sl T, tp T, sl T) := C
  unfold fX12_goesTick at h
  show G X B 3 _ _ 0 [(0, .ref (x0)), (1, .int (x1))] [] T M
  refine g_aload_n (pc := 0) C dX12_goesTick_0 rfl 0 rfl ?_
  replace h := gd_some h; obtain ⟨hk1, h⟩ := h
  refine g_get (pc := 1) (v := va_rf (gR M x0 1)) C dX12_goesTick_1 kX12 hk1 1 (by decide) q_1228 rfl ?_
  replace h := bnd h; obtain ⟨a2, ea2, h⟩ := h
  refine g_refq ea2 ?_
  refine g_bipush (pc := 4) (v := 48) C dX12_goesTick_4 (by decide) ?_
  refine g_dup2 (pc := 6) C dX12_goesTick_6 rfl rfl ?_
  replace h := gd_some h; obtain ⟨hk3, h⟩ := h
  replace h := gv_some h; obtain ⟨hi4, h⟩ := h
  refine g_iald (pc := 7) C dX12_goesTick_7 hk3 hi4 ?_
  refine g_iconst (pc := 8) (v := 1) C dX12_goesTick_8 (by decide) ?_
  refine g_iadd (pc := 9) C dX12_goesTick_9 ?_
  replace h := gv_some h; obtain ⟨hi5, h⟩ := h
  refine g_iast (pc := 10) C dX12_goesTick_10 hk3 hi5 ?_
  refine g_mem (fun M6 eM6 => ?_)
  replace h := lt_at eM6 h
  refine g_aload_n (pc := 11) C dX12_goesTick_11 rfl 0 rfl ?_
  replace h := bnd2 h; obtain ⟨_u, M7, h1, h⟩ := h
  refine g_callVv (pc := 12) (As := []) (st := []) C dX12_goesTick_12 wX12_laysNow hk1 rfl (by decide) q_1485 q_76 q_1483 (by omega) rfl (Nat.le_of_ble_eq_true rfl) (kX12_laysNow (d := 3) (Nat.le_refl _) h1) ?_
  refine g_iconst (pc := 15) (v := 0) C dX12_goesTick_15 (by decide) ?_
  refine g_istore_n (pc := 16) (lo2 := [(2, .int ((0 : Int32))), (0, .ref (x0)), (1, .int (x1))]) C dX12_goesTick_16 rfl (by decide) rfl ?_
  replace h := bnd h; obtain ⟨M24, h1, h⟩ := h
  refine g_sub [1, 2, 0] rfl ?_
  refine lp_G2 (P := PX12_goesTick_17 X B _ _ T x0 x1) (E := EX12_goesTick_17 X B _ _ T x0 x1) (tbX12_goesTick_17 C hd) h1 ?_
  show G X B 3 _ _ 60 [] [] T M24
  obtain ⟨-, rfl⟩ := Prod.mk.inj (Option.some.inj h)
  exact g_vret C hR dX12_goesTick_60
