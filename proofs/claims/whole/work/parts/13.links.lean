theorem fX10_7 : FA RX10 7 10 2 := ⟨gwt_mem (List.mem_of_getElem? (i := 1177) (by decide +kernel)) (by decide +kernel), by decide, by decide⟩
theorem fX10_13 : FA RX10 13 10 3 := ⟨gwt_mem (List.mem_of_getElem? (i := 1178) (by decide +kernel)) (by decide +kernel), by decide, by decide⟩
theorem fX10_16 : FA RX10 16 10 4 := ⟨gwt_mem (List.mem_of_getElem? (i := 1179) (by decide +kernel)) (by decide +kernel), by decide, by decide⟩
theorem fX10_19 : FA RX10 19 10 5 := ⟨gwt_mem (List.mem_of_getElem? (i := 1180) (by decide +kernel)) (by decide +kernel), by decide, by decide⟩
theorem fX10_23 : FA RX10 23 10 6 := ⟨gwt_mem (List.mem_of_getElem? (i := 1181) (by decide +kernel)) (by decide +kernel), by decide, by decide⟩
theorem fX10_26 : FA RX10 26 10 7 := ⟨gwt_mem (List.mem_of_getElem? (i := 1182) (by decide +kernel)) (by decide +kernel), by decide, by decide⟩
theorem fX10_29 : FA RX10 29 10 9 := ⟨gwt_mem (List.mem_of_getElem? (i := 1184) (by decide +kernel)) (by decide +kernel), by decide, by decide⟩
theorem fX10_32 : FA RX10 32 10 10 := ⟨gwt_mem (List.mem_of_getElem? (i := 1185) (by decide +kernel)) (by decide +kernel), by decide, by decide⟩
theorem fX10_35 : FA RX10 35 10 12 := ⟨gwt_mem (List.mem_of_getElem? (i := 1187) (by decide +kernel)) (by decide +kernel), by decide, by decide⟩
theorem fX10_38 : FA RX10 38 10 18 := ⟨gwt_mem (List.mem_of_getElem? (i := 1193) (by decide +kernel)) (by decide +kernel), by decide, by decide⟩
theorem fX10_42 : FA RX10 42 10 22 := ⟨gwt_mem (List.mem_of_getElem? (i := 1197) (by decide +kernel)) (by decide +kernel), by decide, by decide⟩
theorem fX10_45 : FA RX10 45 10 24 := ⟨gwt_mem (List.mem_of_getElem? (i := 1199) (by decide +kernel)) (by decide +kernel), by decide, by decide⟩
theorem fX10_48 : FA RX10 48 10 25 := ⟨gwt_mem (List.mem_of_getElem? (i := 1200) (by decide +kernel)) (by decide +kernel), by decide, by decide⟩
theorem fX10_51 : FA RX10 51 10 27 := ⟨gwt_mem (List.mem_of_getElem? (i := 1202) (by decide +kernel)) (by decide +kernel), by decide, by decide⟩
theorem fX10_54 : FA RX10 54 10 28 := ⟨gwt_mem (List.mem_of_getElem? (i := 1203) (by decide +kernel)) (by decide +kernel), by decide, by decide⟩
theorem fX10_75 : FA RX10 75 10 31 := ⟨gwt_mem (List.mem_of_getElem? (i := 1206) (by decide +kernel)) (by decide +kernel), by decide, by decide⟩
theorem fX10_87 : FA RX10 87 10 32 := ⟨gwt_mem (List.mem_of_getElem? (i := 1207) (by decide +kernel)) (by decide +kernel), by decide, by decide⟩
theorem fX10_98 : FA RX10 98 10 33 := ⟨gwt_mem (List.mem_of_getElem? (i := 1208) (by decide +kernel)) (by decide +kernel), by decide, by decide⟩
theorem fX10_101 : FA RX10 101 10 35 := ⟨gwt_mem (List.mem_of_getElem? (i := 1210) (by decide +kernel)) (by decide +kernel), by decide, by decide⟩
theorem fX10_104 : FA RX10 104 10 36 := ⟨gwt_mem (List.mem_of_getElem? (i := 1211) (by decide +kernel)) (by decide +kernel), by decide, by decide⟩
theorem fX10_107 : FA RX10 107 10 37 := ⟨gwt_mem (List.mem_of_getElem? (i := 1212) (by decide +kernel)) (by decide +kernel), by decide, by decide⟩
theorem fX10_110 : FA RX10 110 10 41 := ⟨gwt_mem (List.mem_of_getElem? (i := 1216) (by decide +kernel)) (by decide +kernel), by decide, by decide⟩
theorem fX10_113 : FA RX10 113 10 42 := ⟨gwt_mem (List.mem_of_getElem? (i := 1217) (by decide +kernel)) (by decide +kernel), by decide, by decide⟩
theorem fX10_116 : FA RX10 116 10 43 := ⟨gwt_mem (List.mem_of_getElem? (i := 1218) (by decide +kernel)) (by decide +kernel), by decide, by decide⟩
theorem fX10_119 : FA RX10 119 10 44 := ⟨gwt_mem (List.mem_of_getElem? (i := 1219) (by decide +kernel)) (by decide +kernel), by decide, by decide⟩
theorem fX10_122 : FA RX10 122 10 45 := ⟨gwt_mem (List.mem_of_getElem? (i := 1220) (by decide +kernel)) (by decide +kernel), by decide, by decide⟩
theorem fX10_125 : FA RX10 125 10 46 := ⟨gwt_mem (List.mem_of_getElem? (i := 1221) (by decide +kernel)) (by decide +kernel), by decide, by decide⟩
theorem fX10_128 : FA RX10 128 10 47 := ⟨gwt_mem (List.mem_of_getElem? (i := 1222) (by decide +kernel)) (by decide +kernel), by decide, by decide⟩
theorem fX10_139 : FA RX10 139 10 48 := ⟨gwt_mem (List.mem_of_getElem? (i := 1223) (by decide +kernel)) (by decide +kernel), by decide, by decide⟩
theorem fX10_142 : FA RX10 142 10 49 := ⟨gwt_mem (List.mem_of_getElem? (i := 1224) (by decide +kernel)) (by decide +kernel), by decide, by decide⟩
theorem fX10_145 : FA RX10 145 10 52 := ⟨gwt_mem (List.mem_of_getElem? (i := 1227) (by decide +kernel)) (by decide +kernel), by decide, by decide⟩
theorem fX10_148 : FA RX10 148 10 55 := ⟨gwt_mem (List.mem_of_getElem? (i := 1230) (by decide +kernel)) (by decide +kernel), by decide, by decide⟩
theorem fX10_151 : FA RX10 151 10 56 := ⟨gwt_mem (List.mem_of_getElem? (i := 1231) (by decide +kernel)) (by decide +kernel), by decide, by decide⟩
theorem fX10_154 : FA RX10 154 10 57 := ⟨gwt_mem (List.mem_of_getElem? (i := 1232) (by decide +kernel)) (by decide +kernel), by decide, by decide⟩
theorem fX10_157 : FA RX10 157 10 0 := ⟨gwt_mem (List.mem_of_getElem? (i := 1175) (by decide +kernel)) (by decide +kernel), by decide, by decide⟩
theorem fX10_160 : FA RX10 160 10 1 := ⟨gwt_mem (List.mem_of_getElem? (i := 1176) (by decide +kernel)) (by decide +kernel), by decide, by decide⟩
theorem fX10_163 : FA RX10 163 10 8 := ⟨gwt_mem (List.mem_of_getElem? (i := 1183) (by decide +kernel)) (by decide +kernel), by decide, by decide⟩
theorem fX10_212 : FA RX10 212 10 13 := ⟨gwt_mem (List.mem_of_getElem? (i := 1188) (by decide +kernel)) (by decide +kernel), by decide, by decide⟩
theorem fX10_215 : FA RX10 215 10 11 := ⟨gwt_mem (List.mem_of_getElem? (i := 1186) (by decide +kernel)) (by decide +kernel), by decide, by decide⟩
theorem fX10_221 : FA RX10 221 10 15 := ⟨gwt_mem (List.mem_of_getElem? (i := 1190) (by decide +kernel)) (by decide +kernel), by decide, by decide⟩
theorem fX10_224 : FA RX10 224 10 19 := ⟨gwt_mem (List.mem_of_getElem? (i := 1194) (by decide +kernel)) (by decide +kernel), by decide, by decide⟩
theorem fX10_231 : FA RX10 231 10 14 := ⟨gwt_mem (List.mem_of_getElem? (i := 1189) (by decide +kernel)) (by decide +kernel), by decide, by decide⟩
theorem fX10_234 : FA RX10 234 10 17 := ⟨gwt_mem (List.mem_of_getElem? (i := 1192) (by decide +kernel)) (by decide +kernel), by decide, by decide⟩
theorem fX10_244 : FA RX10 244 10 16 := ⟨gwt_mem (List.mem_of_getElem? (i := 1191) (by decide +kernel)) (by decide +kernel), by decide, by decide⟩
theorem fX10_261 : FA RX10 261 10 23 := ⟨gwt_mem (List.mem_of_getElem? (i := 1198) (by decide +kernel)) (by decide +kernel), by decide, by decide⟩
theorem fX10_264 : FA RX10 264 10 29 := ⟨gwt_mem (List.mem_of_getElem? (i := 1204) (by decide +kernel)) (by decide +kernel), by decide, by decide⟩
theorem fX10_284 : FA RX10 284 10 30 := ⟨gwt_mem (List.mem_of_getElem? (i := 1205) (by decide +kernel)) (by decide +kernel), by decide, by decide⟩
theorem fX10_290 : FA RX10 290 10 26 := ⟨gwt_mem (List.mem_of_getElem? (i := 1201) (by decide +kernel)) (by decide +kernel), by decide, by decide⟩
theorem fX10_299 : FA RX10 299 10 20 := ⟨gwt_mem (List.mem_of_getElem? (i := 1195) (by decide +kernel)) (by decide +kernel), by decide, by decide⟩
theorem fX10_355 : FA RX10 355 10 21 := ⟨gwt_mem (List.mem_of_getElem? (i := 1196) (by decide +kernel)) (by decide +kernel), by decide, by decide⟩
theorem fX10_375 : FA RX10 375 10 38 := ⟨gwt_mem (List.mem_of_getElem? (i := 1213) (by decide +kernel)) (by decide +kernel), by decide, by decide⟩
theorem fX10_378 : FA RX10 378 10 34 := ⟨gwt_mem (List.mem_of_getElem? (i := 1209) (by decide +kernel)) (by decide +kernel), by decide, by decide⟩
theorem fX10_389 : FA RX10 389 10 39 := ⟨gwt_mem (List.mem_of_getElem? (i := 1214) (by decide +kernel)) (by decide +kernel), by decide, by decide⟩
theorem fX10_395 : FA RX10 395 10 40 := ⟨gwt_mem (List.mem_of_getElem? (i := 1215) (by decide +kernel)) (by decide +kernel), by decide, by decide⟩
theorem fX10_522 : FA RX10 522 10 53 := ⟨gwt_mem (List.mem_of_getElem? (i := 1228) (by decide +kernel)) (by decide +kernel), by decide, by decide⟩
theorem fX10_525 : FA RX10 525 10 50 := ⟨gwt_mem (List.mem_of_getElem? (i := 1225) (by decide +kernel)) (by decide +kernel), by decide, by decide⟩
theorem fX10_528 : FA RX10 528 10 51 := ⟨gwt_mem (List.mem_of_getElem? (i := 1226) (by decide +kernel)) (by decide +kernel), by decide, by decide⟩
theorem fX10_547 : FA RX10 547 10 54 := ⟨gwt_mem (List.mem_of_getElem? (i := 1229) (by decide +kernel)) (by decide +kernel), by decide, by decide⟩
theorem kX10_166 : CV RX10 166 1 10 MX10_tell := ⟨bX10_tell.1, gwt_mem (List.mem_of_getElem? (i := 1354) (by decide +kernel)) (by decide +kernel), bX10_tell.2.1, bX10_tell.2.2, by decide⟩
theorem kX10_170 : CV RX10 170 1 10 MX10_keepAll := ⟨bX10_keepAll.1, gwt_mem (List.mem_of_getElem? (i := 1647) (by decide +kernel)) (by decide +kernel), bX10_keepAll.2.1, bX10_keepAll.2.2, by decide⟩
theorem kX10_174 : CV RX10 174 1 10 MX10_putBack := ⟨bX10_putBack.1, gwt_mem (List.mem_of_getElem? (i := 1358) (by decide +kernel)) (by decide +kernel), bX10_putBack.2.1, bX10_putBack.2.2, by decide⟩
theorem kX10_177 : CS RX10 177 3 MX10_in := ⟨bX10_in.1, gwt_mem (List.mem_of_getElem? (i := 1366) (by decide +kernel)) (by decide +kernel), bX10_in.2⟩
theorem kX10_181 : CV RX10 181 1 10 MX10_settled := ⟨bX10_settled.1, gwt_mem (List.mem_of_getElem? (i := 1373) (by decide +kernel)) (by decide +kernel), bX10_settled.2.1, bX10_settled.2.2, by decide⟩
theorem kX10_190 : CV RX10 190 4 10 MX10_come := ⟨bX10_come.1, gwt_mem (List.mem_of_getElem? (i := 1381) (by decide +kernel)) (by decide +kernel), bX10_come.2.1, bX10_come.2.2, by decide⟩
theorem kX10_194 : CV RX10 194 1 10 MX10_isBook := ⟨bX10_isBook.1, gwt_mem (List.mem_of_getElem? (i := 1392) (by decide +kernel)) (by decide +kernel), bX10_isBook.2.1, bX10_isBook.2.2, by decide⟩
theorem kX10_198 : CV RX10 198 1 10 MX10_readerWith := ⟨bX10_readerWith.1, gwt_mem (List.mem_of_getElem? (i := 1396) (by decide +kernel)) (by decide +kernel), bX10_readerWith.2.1, bX10_readerWith.2.2, by decide⟩
theorem kX10_201 : CV RX10 201 1 10 MX10_isReader := ⟨bX10_isReader.1, gwt_mem (List.mem_of_getElem? (i := 1408) (by decide +kernel)) (by decide +kernel), bX10_isReader.2.1, bX10_isReader.2.2, by decide⟩
theorem kX10_208 : CV RX10 208 2 10 MX10_change := ⟨bX10_change.1, gwt_mem (List.mem_of_getElem? (i := 1418) (by decide +kernel)) (by decide +kernel), bX10_change.2.1, bX10_change.2.2, by decide⟩
theorem kX10_218 : CV RX10 218 1 10 MX10_four := ⟨bX10_four.1, gwt_mem (List.mem_of_getElem? (i := 1434) (by decide +kernel)) (by decide +kernel), bX10_four.2.1, bX10_four.2.2, by decide⟩
theorem kX10_228 : CV RX10 228 0 10 MX10_next := ⟨bX10_next.1, gwt_mem (List.mem_of_getElem? (i := 1458) (by decide +kernel)) (by decide +kernel), bX10_next.2.1, bX10_next.2.2, by decide⟩
theorem kX10_238 : CS RX10 238 1 MX10_isSmall := ⟨bX10_isSmall.1, gwt_mem (List.mem_of_getElem? (i := 1462) (by decide +kernel)) (by decide +kernel), bX10_isSmall.2⟩
theorem kX10_241 : CS RX10 241 1 MX10_isDigit := ⟨bX10_isDigit.1, gwt_mem (List.mem_of_getElem? (i := 1465) (by decide +kernel)) (by decide +kernel), bX10_isDigit.2⟩
theorem kX10_257 : CV RX10 257 1 10 MX10_must := ⟨bX10_must.1, gwt_mem (List.mem_of_getElem? (i := 1481) (by decide +kernel)) (by decide +kernel), bX10_must.2.1, bX10_must.2.2, by decide⟩
theorem kX10_267 : CS RX10 267 1 MX10_binds := ⟨bX10_binds.1, gwt_mem (List.mem_of_getElem? (i := 1537) (by decide +kernel)) (by decide +kernel), bX10_binds.2⟩
theorem kX10_270 : CV RX10 270 2 10 MX10_emit := ⟨bX10_emit.1, gwt_mem (List.mem_of_getElem? (i := 1523) (by decide +kernel)) (by decide +kernel), bX10_emit.2.1, bX10_emit.2.2, by decide⟩
theorem kX10_280 : CV RX10 280 1 10 MX10_isWord := ⟨bX10_isWord.1, gwt_mem (List.mem_of_getElem? (i := 1477) (by decide +kernel)) (by decide +kernel), bX10_isWord.2.1, bX10_isWord.2.2, by decide⟩
theorem kX10_287 : CV RX10 287 2 10 MX10_push := ⟨bX10_push.1, gwt_mem (List.mem_of_getElem? (i := 1494) (by decide +kernel)) (by decide +kernel), bX10_push.2.1, bX10_push.2.2, by decide⟩
theorem kX10_293 : CV RX10 293 1 10 MX10_isSign := ⟨bX10_isSign.1, gwt_mem (List.mem_of_getElem? (i := 1498) (by decide +kernel)) (by decide +kernel), bX10_isSign.2.1, bX10_isSign.2.2, by decide⟩
theorem kX10_296 : CV RX10 296 1 10 MX10_openBracket := ⟨bX10_openBracket.1, gwt_mem (List.mem_of_getElem? (i := 1502) (by decide +kernel)) (by decide +kernel), bX10_openBracket.2.1, bX10_openBracket.2.2, by decide⟩
theorem kX10_302 : CV RX10 302 0 10 MX10_orderPartAt := ⟨bX10_orderPartAt.1, gwt_mem (List.mem_of_getElem? (i := 1510) (by decide +kernel)) (by decide +kernel), bX10_orderPartAt.2.1, bX10_orderPartAt.2.2, by decide⟩
theorem kX10_306 : CV RX10 306 0 10 MX10_partAt := ⟨bX10_partAt.1, gwt_mem (List.mem_of_getElem? (i := 1514) (by decide +kernel)) (by decide +kernel), bX10_partAt.2.1, bX10_partAt.2.2, by decide⟩
theorem kX10_311 : CV RX10 311 3 10 MX10_leaf := ⟨bX10_leaf.1, gwt_mem (List.mem_of_getElem? (i := 1519) (by decide +kernel)) (by decide +kernel), bX10_leaf.2.1, bX10_leaf.2.2, by decide⟩
theorem kX10_319 : CV RX10 319 2 10 MX10_number := ⟨bX10_number.1, gwt_mem (List.mem_of_getElem? (i := 1529) (by decide +kernel)) (by decide +kernel), bX10_number.2.1, bX10_number.2.2, by decide⟩
theorem kX10_325 : CV RX10 325 0 10 MX10_readPart := ⟨bX10_readPart.1, gwt_mem (List.mem_of_getElem? (i := 1506) (by decide +kernel)) (by decide +kernel), bX10_readPart.2.1, bX10_readPart.2.2, by decide⟩
theorem kX10_328 : CV RX10 328 1 10 MX10_settle := ⟨bX10_settle.1, gwt_mem (List.mem_of_getElem? (i := 1540) (by decide +kernel)) (by decide +kernel), bX10_settle.2.1, bX10_settle.2.2, by decide⟩
theorem kX10_331 : CV RX10 331 0 10 MX10_inner := ⟨bX10_inner.1, gwt_mem (List.mem_of_getElem? (i := 1544) (by decide +kernel)) (by decide +kernel), bX10_inner.2.1, bX10_inner.2.2, by decide⟩
theorem kX10_334 : CV RX10 334 0 10 MX10_isCompared := ⟨bX10_isCompared.1, gwt_mem (List.mem_of_getElem? (i := 1548) (by decide +kernel)) (by decide +kernel), bX10_isCompared.2.1, bX10_isCompared.2.2, by decide⟩
theorem kX10_342 : CV RX10 342 0 10 MX10_readPlain := ⟨bX10_readPlain.1, gwt_mem (List.mem_of_getElem? (i := 1489) (by decide +kernel)) (by decide +kernel), bX10_readPlain.2.1, bX10_readPlain.2.2, by decide⟩
theorem kX10_345 : CV RX10 345 1 10 MX10_behindSum := ⟨bX10_behindSum.1, gwt_mem (List.mem_of_getElem? (i := 1533) (by decide +kernel)) (by decide +kernel), bX10_behindSum.2.1, bX10_behindSum.2.2, by decide⟩
theorem kX10_349 : CV RX10 349 0 10 MX10_behindTest := ⟨bX10_behindTest.1, gwt_mem (List.mem_of_getElem? (i := 1555) (by decide +kernel)) (by decide +kernel), bX10_behindTest.2.1, bX10_behindTest.2.2, by decide⟩
theorem kX10_352 : CV RX10 352 0 10 MX10_begin := ⟨bX10_begin.1, gwt_mem (List.mem_of_getElem? (i := 1454) (by decide +kernel)) (by decide +kernel), bX10_begin.2.1, bX10_begin.2.2, by decide⟩
theorem kX10_358 : CV RX10 358 1 10 MX10_readExpression := ⟨bX10_readExpression.1, gwt_mem (List.mem_of_getElem? (i := 1485) (by decide +kernel)) (by decide +kernel), bX10_readExpression.2.1, bX10_readExpression.2.2, by decide⟩
theorem kX10_363 : CV RX10 363 1 10 MX10_beginText := ⟨bX10_beginText.1, gwt_mem (List.mem_of_getElem? (i := 1450) (by decide +kernel)) (by decide +kernel), bX10_beginText.2.1, bX10_beginText.2.2, by decide⟩
theorem kX10_366 : CV RX10 366 0 10 MX10_readLaw := ⟨bX10_readLaw.1, gwt_mem (List.mem_of_getElem? (i := 1473) (by decide +kernel)) (by decide +kernel), bX10_readLaw.2.1, bX10_readLaw.2.2, by decide⟩
theorem kX10_369 : CV RX10 369 0 10 MX10_endText := ⟨bX10_endText.1, gwt_mem (List.mem_of_getElem? (i := 1562) (by decide +kernel)) (by decide +kernel), bX10_endText.2.1, bX10_endText.2.2, by decide⟩
theorem kX10_372 : CV RX10 372 1 10 MX10_isLaw := ⟨bX10_isLaw.1, gwt_mem (List.mem_of_getElem? (i := 1570) (by decide +kernel)) (by decide +kernel), bX10_isLaw.2.1, bX10_isLaw.2.2, by decide⟩
theorem kX10_381 : CV RX10 381 3 10 MX10_reckon := ⟨bX10_reckon.1, gwt_mem (List.mem_of_getElem? (i := 1603) (by decide +kernel)) (by decide +kernel), bX10_reckon.2.1, bX10_reckon.2.2, by decide⟩
theorem kX10_392 : CV RX10 392 2 10 MX10_reckonAll := ⟨bX10_reckonAll.1, gwt_mem (List.mem_of_getElem? (i := 1599) (by decide +kernel)) (by decide +kernel), bX10_reckonAll.2.1, bX10_reckonAll.2.2, by decide⟩
theorem kX10_398 : CV RX10 398 1 10 MX10_term := ⟨bX10_term.1, gwt_mem (List.mem_of_getElem? (i := 1591) (by decide +kernel)) (by decide +kernel), bX10_term.2.1, bX10_term.2.2, by decide⟩
theorem kX10_401 : CV RX10 401 1 10 MX10_keptFor := ⟨bX10_keptFor.1, gwt_mem (List.mem_of_getElem? (i := 1587) (by decide +kernel)) (by decide +kernel), bX10_keptFor.2.1, bX10_keptFor.2.2, by decide⟩
theorem kX10_404 : CV RX10 404 1 10 MX10_isSo := ⟨bX10_isSo.1, gwt_mem (List.mem_of_getElem? (i := 1595) (by decide +kernel)) (by decide +kernel), bX10_isSo.2.1, bX10_isSo.2.2, by decide⟩
theorem kX10_409 : CV RX10 409 4 10 MX10_tells := ⟨bX10_tells.1, gwt_mem (List.mem_of_getElem? (i := 1583) (by decide +kernel)) (by decide +kernel), bX10_tells.2.1, bX10_tells.2.2, by decide⟩
theorem kX10_413 : CS RX10 413 3 MX10_within := ⟨bX10_within.1, gwt_mem (List.mem_of_getElem? (i := 1609) (by decide +kernel)) (by decide +kernel), bX10_within.2⟩
theorem kX10_417 : CS RX10 417 2 MX10_isIn := ⟨bX10_isIn.1, gwt_mem (List.mem_of_getElem? (i := 1628) (by decide +kernel)) (by decide +kernel), bX10_isIn.2⟩
theorem kX10_421 : CV RX10 421 2 10 MX10_isFitting := ⟨bX10_isFitting.1, gwt_mem (List.mem_of_getElem? (i := 1624) (by decide +kernel)) (by decide +kernel), bX10_isFitting.2.1, bX10_isFitting.2.2, by decide⟩
theorem kX10_424 : CV RX10 424 2 10 MX10_isBarred := ⟨bX10_isBarred.1, gwt_mem (List.mem_of_getElem? (i := 1620) (by decide +kernel)) (by decide +kernel), bX10_isBarred.2.1, bX10_isBarred.2.2, by decide⟩
theorem kX10_427 : CV RX10 427 2 10 MX10_finesOf := ⟨bX10_finesOf.1, gwt_mem (List.mem_of_getElem? (i := 1578) (by decide +kernel)) (by decide +kernel), bX10_finesOf.2.1, bX10_finesOf.2.2, by decide⟩
theorem kX10_430 : CV RX10 430 2 10 MX10_wearsOf := ⟨bX10_wearsOf.1, gwt_mem (List.mem_of_getElem? (i := 1612) (by decide +kernel)) (by decide +kernel), bX10_wearsOf.2.1, bX10_wearsOf.2.2, by decide⟩
theorem kX10_433 : CV RX10 433 2 10 MX10_takesOf := ⟨bX10_takesOf.1, gwt_mem (List.mem_of_getElem? (i := 1616) (by decide +kernel)) (by decide +kernel), bX10_takesOf.2.1, bX10_takesOf.2.2, by decide⟩
theorem kX10_436 : CV RX10 436 2 10 MX10_canHave := ⟨bX10_canHave.1, gwt_mem (List.mem_of_getElem? (i := 1631) (by decide +kernel)) (by decide +kernel), bX10_canHave.2.1, bX10_canHave.2.2, by decide⟩
theorem kX10_439 : CV RX10 439 1 10 MX10_dueOf := ⟨bX10_dueOf.1, gwt_mem (List.mem_of_getElem? (i := 1655) (by decide +kernel)) (by decide +kernel), bX10_dueOf.2.1, bX10_dueOf.2.2, by decide⟩
theorem kX10_442 : CV RX10 442 1 10 MX10_leaveIt := ⟨bX10_leaveIt.1, gwt_mem (List.mem_of_getElem? (i := 1651) (by decide +kernel)) (by decide +kernel), bX10_leaveIt.2.1, bX10_leaveIt.2.2, by decide⟩
theorem kX10_445 : CV RX10 445 2 10 MX10_waitAt := ⟨bX10_waitAt.1, gwt_mem (List.mem_of_getElem? (i := 1667) (by decide +kernel)) (by decide +kernel), bX10_waitAt.2.1, bX10_waitAt.2.2, by decide⟩
theorem kX10_448 : CV RX10 448 2 10 MX10_canLend := ⟨bX10_canLend.1, gwt_mem (List.mem_of_getElem? (i := 1643) (by decide +kernel)) (by decide +kernel), bX10_canLend.2.1, bX10_canLend.2.2, by decide⟩
theorem kX10_451 : CV RX10 451 1 10 MX10_remember := ⟨bX10_remember.1, gwt_mem (List.mem_of_getElem? (i := 1659) (by decide +kernel)) (by decide +kernel), bX10_remember.2.1, bX10_remember.2.2, by decide⟩
theorem kX10_454 : CV RX10 454 2 10 MX10_lendIt := ⟨bX10_lendIt.1, gwt_mem (List.mem_of_getElem? (i := 1663) (by decide +kernel)) (by decide +kernel), bX10_lendIt.2.1, bX10_lendIt.2.2, by decide⟩
theorem kX10_457 : CV RX10 457 2 10 MX10_lendNow := ⟨bX10_lendNow.1, gwt_mem (List.mem_of_getElem? (i := 1639) (by decide +kernel)) (by decide +kernel), bX10_lendNow.2.1, bX10_lendNow.2.2, by decide⟩
theorem kX10_460 : CV RX10 460 1 10 MX10_bringNow := ⟨bX10_bringNow.1, gwt_mem (List.mem_of_getElem? (i := 1675) (by decide +kernel)) (by decide +kernel), bX10_bringNow.2.1, bX10_bringNow.2.2, by decide⟩
theorem kX10_463 : CV RX10 463 2 10 MX10_waitsNow := ⟨bX10_waitsNow.1, gwt_mem (List.mem_of_getElem? (i := 1683) (by decide +kernel)) (by decide +kernel), bX10_waitsNow.2.1, bX10_waitsNow.2.2, by decide⟩
theorem kX10_466 : CV RX10 466 0 10 MX10_passIt := ⟨bX10_passIt.1, gwt_mem (List.mem_of_getElem? (i := 1695) (by decide +kernel)) (by decide +kernel), bX10_passIt.2.1, bX10_passIt.2.2, by decide⟩
theorem kX10_469 : CV RX10 469 0 10 MX10_passNow := ⟨bX10_passNow.1, gwt_mem (List.mem_of_getElem? (i := 1691) (by decide +kernel)) (by decide +kernel), bX10_passNow.2.1, bX10_passNow.2.2, by decide⟩
theorem kX10_472 : CV RX10 472 1 10 MX10_isFree := ⟨bX10_isFree.1, gwt_mem (List.mem_of_getElem? (i := 1707) (by decide +kernel)) (by decide +kernel), bX10_isFree.2.1, bX10_isFree.2.2, by decide⟩
theorem kX10_475 : CV RX10 475 0 10 MX10_findServed := ⟨bX10_findServed.1, gwt_mem (List.mem_of_getElem? (i := 1703) (by decide +kernel)) (by decide +kernel), bX10_findServed.2.1, bX10_findServed.2.2, by decide⟩
theorem kX10_479 : CV RX10 479 2 10 MX10_weeksBy := ⟨bX10_weeksBy.1, gwt_mem (List.mem_of_getElem? (i := 1724) (by decide +kernel)) (by decide +kernel), bX10_weeksBy.2.1, bX10_weeksBy.2.2, by decide⟩
theorem kX10_482 : CV RX10 482 1 10 MX10_layWeeks := ⟨bX10_layWeeks.1, gwt_mem (List.mem_of_getElem? (i := 1719) (by decide +kernel)) (by decide +kernel), bX10_layWeeks.2.1, bX10_layWeeks.2.2, by decide⟩
theorem kX10_485 : CS RX10 485 2 MX10_is := ⟨bX10_is.1, gwt_mem (List.mem_of_getElem? (i := 1736) (by decide +kernel)) (by decide +kernel), bX10_is.2⟩
theorem kX10_488 : CV RX10 488 2 10 MX10_canBeLast := ⟨bX10_canBeLast.1, gwt_mem (List.mem_of_getElem? (i := 1739) (by decide +kernel)) (by decide +kernel), bX10_canBeLast.2.1, bX10_canBeLast.2.2, by decide⟩
theorem kX10_491 : CV RX10 491 1 10 MX10_laySets := ⟨bX10_laySets.1, gwt_mem (List.mem_of_getElem? (i := 1732) (by decide +kernel)) (by decide +kernel), bX10_laySets.2.1, bX10_laySets.2.2, by decide⟩
theorem kX10_494 : CV RX10 494 2 10 MX10_isOne := ⟨bX10_isOne.1, gwt_mem (List.mem_of_getElem? (i := 1743) (by decide +kernel)) (by decide +kernel), bX10_isOne.2.1, bX10_isOne.2.2, by decide⟩
theorem kX10_497 : CV RX10 497 2 10 MX10_isInside := ⟨bX10_isInside.1, gwt_mem (List.mem_of_getElem? (i := 1763) (by decide +kernel)) (by decide +kernel), bX10_isInside.2.1, bX10_isInside.2.2, by decide⟩
theorem kX10_500 : CV RX10 500 0 10 MX10_layNests := ⟨bX10_layNests.1, gwt_mem (List.mem_of_getElem? (i := 1759) (by decide +kernel)) (by decide +kernel), bX10_layNests.2.1, bX10_layNests.2.2, by decide⟩
theorem kX10_503 : CS RX10 503 1 MX10_ones := ⟨bX10_ones.1, gwt_mem (List.mem_of_getElem? (i := 1771) (by decide +kernel)) (by decide +kernel), bX10_ones.2⟩
theorem kX10_506 : CV RX10 506 1 10 MX10_fittedBy := ⟨bX10_fittedBy.1, gwt_mem (List.mem_of_getElem? (i := 1774) (by decide +kernel)) (by decide +kernel), bX10_fittedBy.2.1, bX10_fittedBy.2.2, by decide⟩
theorem kX10_513 : CV RX10 513 1 10 MX10_readSum := ⟨bX10_readSum.1, gwt_mem (List.mem_of_getElem? (i := 1796) (by decide +kernel)) (by decide +kernel), bX10_readSum.2.1, bX10_readSum.2.2, by decide⟩
theorem kX10_531 : CV RX10 531 1 10 MX10_sumOf := ⟨bX10_sumOf.1, gwt_mem (List.mem_of_getElem? (i := 1807) (by decide +kernel)) (by decide +kernel), bX10_sumOf.2.1, bX10_sumOf.2.2, by decide⟩
theorem kX10_534 : CV RX10 534 3 10 MX10_act := ⟨bX10_act.1, gwt_mem (List.mem_of_getElem? (i := 1811) (by decide +kernel)) (by decide +kernel), bX10_act.2.1, bX10_act.2.2, by decide⟩
theorem kX10_538 : CV RX10 538 0 10 MX10_readOrder := ⟨bX10_readOrder.1, gwt_mem (List.mem_of_getElem? (i := 1792) (by decide +kernel)) (by decide +kernel), bX10_readOrder.2.1, bX10_readOrder.2.2, by decide⟩
theorem kX10_541 : CV RX10 541 1 10 MX10_run := ⟨bX10_run.1, gwt_mem (List.mem_of_getElem? (i := 1803) (by decide +kernel)) (by decide +kernel), bX10_run.2.1, bX10_run.2.2, by decide⟩
theorem kX10_544 : CV RX10 544 1 10 MX10_giveBack := ⟨bX10_giveBack.1, gwt_mem (List.mem_of_getElem? (i := 1815) (by decide +kernel)) (by decide +kernel), bX10_giveBack.2.1, bX10_giveBack.2.2, by decide⟩
theorem kX10_558 : CV RX10 558 1 10 MX10_draw := ⟨bX10_draw.1, gwt_mem (List.mem_of_getElem? (i := 1828) (by decide +kernel)) (by decide +kernel), bX10_draw.2.1, bX10_draw.2.2, by decide⟩
theorem kX10_563 : CV RX10 563 0 10 MX10_lentOnes := ⟨bX10_lentOnes.1, gwt_mem (List.mem_of_getElem? (i := 1844) (by decide +kernel)) (by decide +kernel), bX10_lentOnes.2.1, bX10_lentOnes.2.2, by decide⟩
theorem wX10_c478 : Cond.constant RX10 478 (100000000) ∈ gwt := gwt_mem (List.mem_of_getElem? (i := 1723) (by decide +kernel)) (by decide +kernel)
theorem wX10_c57 : Cond.constantLong RX10 57 (81387) ∈ gwt := gwt_mem (List.mem_of_getElem? (i := 1154) (by decide +kernel)) (by decide +kernel)
theorem wX10_c59 : Cond.constantLong RX10 59 (408362632) ∈ gwt := gwt_mem (List.mem_of_getElem? (i := 1155) (by decide +kernel)) (by decide +kernel)
theorem wX10_c61 : Cond.constantLong RX10 61 (17484389) ∈ gwt := gwt_mem (List.mem_of_getElem? (i := 1156) (by decide +kernel)) (by decide +kernel)
theorem wX10_c63 : Cond.constantLong RX10 63 (609259698) ∈ gwt := gwt_mem (List.mem_of_getElem? (i := 1157) (by decide +kernel)) (by decide +kernel)
theorem wX10_c65 : Cond.constantLong RX10 65 (690005651) ∈ gwt := gwt_mem (List.mem_of_getElem? (i := 1158) (by decide +kernel)) (by decide +kernel)
theorem wX10_c67 : Cond.constantLong RX10 67 (769614) ∈ gwt := gwt_mem (List.mem_of_getElem? (i := 1159) (by decide +kernel)) (by decide +kernel)
theorem wX10_c69 : Cond.constantLong RX10 69 (366100) ∈ gwt := gwt_mem (List.mem_of_getElem? (i := 1160) (by decide +kernel)) (by decide +kernel)
theorem wX10_c71 : Cond.constantLong RX10 71 (758955) ∈ gwt := gwt_mem (List.mem_of_getElem? (i := 1161) (by decide +kernel)) (by decide +kernel)
theorem wX10_c73 : Cond.constantLong RX10 73 (441828) ∈ gwt := gwt_mem (List.mem_of_getElem? (i := 1162) (by decide +kernel)) (by decide +kernel)
theorem wX10_c79 : Cond.constantLong RX10 79 (146885) ∈ gwt := gwt_mem (List.mem_of_getElem? (i := 1163) (by decide +kernel)) (by decide +kernel)
theorem wX10_c81 : Cond.constantLong RX10 81 (404362868) ∈ gwt := gwt_mem (List.mem_of_getElem? (i := 1164) (by decide +kernel)) (by decide +kernel)
theorem wX10_c83 : Cond.constantLong RX10 83 (24739718599) ∈ gwt := gwt_mem (List.mem_of_getElem? (i := 1165) (by decide +kernel)) (by decide +kernel)
theorem wX10_c85 : Cond.constantLong RX10 85 (763528) ∈ gwt := gwt_mem (List.mem_of_getElem? (i := 1166) (by decide +kernel)) (by decide +kernel)
theorem wX10_c90 : Cond.constantLong RX10 90 (6600883) ∈ gwt := gwt_mem (List.mem_of_getElem? (i := 1167) (by decide +kernel)) (by decide +kernel)
theorem wX10_c92 : Cond.constantLong RX10 92 (24282707) ∈ gwt := gwt_mem (List.mem_of_getElem? (i := 1168) (by decide +kernel)) (by decide +kernel)
theorem wX10_c94 : Cond.constantLong RX10 94 (21015731) ∈ gwt := gwt_mem (List.mem_of_getElem? (i := 1169) (by decide +kernel)) (by decide +kernel)
theorem wX10_c96 : Cond.constantLong RX10 96 (67155) ∈ gwt := gwt_mem (List.mem_of_getElem? (i := 1170) (by decide +kernel)) (by decide +kernel)
theorem wX10_c131 : Cond.constantLong RX10 131 (398788) ∈ gwt := gwt_mem (List.mem_of_getElem? (i := 1171) (by decide +kernel)) (by decide +kernel)
theorem wX10_c133 : Cond.constantLong RX10 133 (2696647) ∈ gwt := gwt_mem (List.mem_of_getElem? (i := 1172) (by decide +kernel)) (by decide +kernel)
theorem wX10_c135 : Cond.constantLong RX10 135 (754996) ∈ gwt := gwt_mem (List.mem_of_getElem? (i := 1173) (by decide +kernel)) (by decide +kernel)
theorem wX10_c137 : Cond.constantLong RX10 137 (525939) ∈ gwt := gwt_mem (List.mem_of_getElem? (i := 1174) (by decide +kernel)) (by decide +kernel)
theorem wX10_c184 : Cond.constantLong RX10 184 (9) ∈ gwt := gwt_mem (List.mem_of_getElem? (i := 1385) (by decide +kernel)) (by decide +kernel)
theorem wX10_c186 : Cond.constantLong RX10 186 (63) ∈ gwt := gwt_mem (List.mem_of_getElem? (i := 1386) (by decide +kernel)) (by decide +kernel)
theorem wX10_c188 : Cond.constantLong RX10 188 (999) ∈ gwt := gwt_mem (List.mem_of_getElem? (i := 1387) (by decide +kernel)) (by decide +kernel)
theorem wX10_c204 : Cond.constantLong RX10 204 (20) ∈ gwt := gwt_mem (List.mem_of_getElem? (i := 1416) (by decide +kernel)) (by decide +kernel)
theorem wX10_c206 : Cond.constantLong RX10 206 (10) ∈ gwt := gwt_mem (List.mem_of_getElem? (i := 1417) (by decide +kernel)) (by decide +kernel)
theorem wX10_c247 : Cond.constantLong RX10 247 (32) ∈ gwt := gwt_mem (List.mem_of_getElem? (i := 1468) (by decide +kernel)) (by decide +kernel)
theorem wX10_c249 : Cond.constantLong RX10 249 (96) ∈ gwt := gwt_mem (List.mem_of_getElem? (i := 1469) (by decide +kernel)) (by decide +kernel)
theorem wX10_c251 : Cond.constantLong RX10 251 (-1) ∈ gwt := gwt_mem (List.mem_of_getElem? (i := 1470) (by decide +kernel)) (by decide +kernel)
theorem wX10_c253 : Cond.constantLong RX10 253 (1000000) ∈ gwt := gwt_mem (List.mem_of_getElem? (i := 1471) (by decide +kernel)) (by decide +kernel)
theorem wX10_c255 : Cond.constantLong RX10 255 (48) ∈ gwt := gwt_mem (List.mem_of_getElem? (i := 1472) (by decide +kernel)) (by decide +kernel)
theorem wX10_c274 : Cond.constantLong RX10 274 (24) ∈ gwt := gwt_mem (List.mem_of_getElem? (i := 1552) (by decide +kernel)) (by decide +kernel)
theorem wX10_c276 : Cond.constantLong RX10 276 (25) ∈ gwt := gwt_mem (List.mem_of_getElem? (i := 1553) (by decide +kernel)) (by decide +kernel)
theorem wX10_c278 : Cond.constantLong RX10 278 (27) ∈ gwt := gwt_mem (List.mem_of_getElem? (i := 1554) (by decide +kernel)) (by decide +kernel)
theorem wX10_c309 : Cond.constantLong RX10 309 (1000) ∈ gwt := gwt_mem (List.mem_of_getElem? (i := 1518) (by decide +kernel)) (by decide +kernel)
theorem wX10_c315 : Cond.constantLong RX10 315 (7) ∈ gwt := gwt_mem (List.mem_of_getElem? (i := 1527) (by decide +kernel)) (by decide +kernel)
theorem wX10_c317 : Cond.constantLong RX10 317 (5) ∈ gwt := gwt_mem (List.mem_of_getElem? (i := 1528) (by decide +kernel)) (by decide +kernel)
theorem wX10_c323 : Cond.constantLong RX10 323 (14836) ∈ gwt := gwt_mem (List.mem_of_getElem? (i := 1493) (by decide +kernel)) (by decide +kernel)
theorem wX10_c338 : Cond.constantLong RX10 338 (1476) ∈ gwt := gwt_mem (List.mem_of_getElem? (i := 1559) (by decide +kernel)) (by decide +kernel)
theorem wX10_c340 : Cond.constantLong RX10 340 (498) ∈ gwt := gwt_mem (List.mem_of_getElem? (i := 1560) (by decide +kernel)) (by decide +kernel)
theorem wX10_c361 : Cond.constantLong RX10 361 (294) ∈ gwt := gwt_mem (List.mem_of_getElem? (i := 1561) (by decide +kernel)) (by decide +kernel)
theorem wX10_c385 : Cond.constantLong RX10 385 (-1000000000) ∈ gwt := gwt_mem (List.mem_of_getElem? (i := 1607) (by decide +kernel)) (by decide +kernel)
theorem wX10_c387 : Cond.constantLong RX10 387 (1000000000) ∈ gwt := gwt_mem (List.mem_of_getElem? (i := 1608) (by decide +kernel)) (by decide +kernel)
theorem wX10_c407 : Cond.constantLong RX10 407 (2) ∈ gwt := gwt_mem (List.mem_of_getElem? (i := 1582) (by decide +kernel)) (by decide +kernel)
theorem wX10_c509 : Cond.constantLong RX10 509 (99) ∈ gwt := gwt_mem (List.mem_of_getElem? (i := 1786) (by decide +kernel)) (by decide +kernel)
theorem wX10_c511 : Cond.constantLong RX10 511 (1000000000000) ∈ gwt := gwt_mem (List.mem_of_getElem? (i := 1787) (by decide +kernel)) (by decide +kernel)
theorem wX10_c516 : Cond.constantLong RX10 516 (655) ∈ gwt := gwt_mem (List.mem_of_getElem? (i := 1800) (by decide +kernel)) (by decide +kernel)
theorem wX10_c518 : Cond.constantLong RX10 518 (6642) ∈ gwt := gwt_mem (List.mem_of_getElem? (i := 1801) (by decide +kernel)) (by decide +kernel)
theorem wX10_c520 : Cond.constantLong RX10 520 (21279923) ∈ gwt := gwt_mem (List.mem_of_getElem? (i := 1802) (by decide +kernel)) (by decide +kernel)
theorem wX10_c550 : Cond.constantLong RX10 550 (1103) ∈ gwt := gwt_mem (List.mem_of_getElem? (i := 1832) (by decide +kernel)) (by decide +kernel)
theorem wX10_c552 : Cond.constantLong RX10 552 (12345) ∈ gwt := gwt_mem (List.mem_of_getElem? (i := 1833) (by decide +kernel)) (by decide +kernel)
theorem wX10_c554 : Cond.constantLong RX10 554 (1000003) ∈ gwt := gwt_mem (List.mem_of_getElem? (i := 1834) (by decide +kernel)) (by decide +kernel)
theorem wX10_c556 : Cond.constantLong RX10 556 (60) ∈ gwt := gwt_mem (List.mem_of_getElem? (i := 1827) (by decide +kernel)) (by decide +kernel)
theorem wX10_c561 : Cond.constantLong RX10 561 (3) ∈ gwt := gwt_mem (List.mem_of_getElem? (i := 1839) (by decide +kernel)) (by decide +kernel)
theorem wX10_c566 : Cond.constantLong RX10 566 (13) ∈ gwt := gwt_mem (List.mem_of_getElem? (i := 1848) (by decide +kernel)) (by decide +kernel)
theorem wX10_c568 : Cond.constantLong RX10 568 (16) ∈ gwt := gwt_mem (List.mem_of_getElem? (i := 1849) (by decide +kernel)) (by decide +kernel)
theorem wJ6_c265 : Cond.constant RJ6 265 (1431655765) ∈ gwt := gwt_mem (List.mem_of_getElem? (i := 960) (by decide +kernel)) (by decide +kernel)
theorem wJ6_c266 : Cond.constant RJ6 266 (858993459) ∈ gwt := gwt_mem (List.mem_of_getElem? (i := 961) (by decide +kernel)) (by decide +kernel)
theorem wJ6_c267 : Cond.constant RJ6 267 (252645135) ∈ gwt := gwt_mem (List.mem_of_getElem? (i := 962) (by decide +kernel)) (by decide +kernel)
