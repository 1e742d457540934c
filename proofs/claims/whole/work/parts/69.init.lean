/-! constructors -/
theorem iw_35 : Cond.selects RX12 yX12_set yX12_set ∈ rx_tbl := rx_tw 35 (by decide +kernel) rfl
theorem iw_36 : Cond.selects RX12 yX12_layRule yX12_layRule ∈ rx_tbl := rx_tw 36 (by decide +kernel) rfl
theorem iw_99 : Cond.initialized RX11 ∈ rx_tbl := rx_tw 99 (by decide +kernel) rfl
theorem iw_100 : Cond.initialized RX8 ∈ rx_tbl := rx_tw 100 (by decide +kernel) rfl
theorem iw_101 : Cond.initialized RX3 ∈ rx_tbl := rx_tw 101 (by decide +kernel) rfl
theorem iw_102 : Cond.initialized RX2 ∈ rx_tbl := rx_tw 102 (by decide +kernel) rfl
theorem iw_103 : Cond.initialized RX1 ∈ rx_tbl := rx_tw 103 (by decide +kernel) rfl
theorem iw_104 : Cond.initialized RX5 ∈ rx_tbl := rx_tw 104 (by decide +kernel) rfl
theorem iw_105 : Cond.initialized RX6 ∈ rx_tbl := rx_tw 105 (by decide +kernel) rfl
theorem iw_106 : Cond.initialized RX10 ∈ rx_tbl := rx_tw 106 (by decide +kernel) rfl
theorem iw_107 : Cond.initialized RX7 ∈ rx_tbl := rx_tw 107 (by decide +kernel) rfl
theorem iw_108 : Cond.initialized RX9 ∈ rx_tbl := rx_tw 108 (by decide +kernel) rfl
theorem iw_109 : Cond.initialized RX0 ∈ rx_tbl := rx_tw 109 (by decide +kernel) rfl
theorem iw_110 : Cond.initialized RX4 ∈ rx_tbl := rx_tw 110 (by decide +kernel) rfl
theorem iw_111 : Cond.initialized RX12 ∈ rx_tbl := rx_tw 111 (by decide +kernel) rfl
theorem iw_122 : Cond.methodLink RX11 1 Lib.objectInit ∈ rx_tbl := rx_tw 122 (by decide +kernel) rfl
theorem iw_123 : Cond.instanceMethod Lib.objectInit ∈ rx_tbl := rx_tw 123 (by decide +kernel) rfl
theorem iw_124 : Cond.code Lib.objectInit ⟨#[0xb1]⟩ 1 none ∈ rx_tbl := rx_tw 124 (by decide +kernel) rfl
theorem iw_125 : Cond.classLink RX11 7 RX8 ∈ rx_tbl := rx_tw 125 (by decide +kernel) rfl
theorem iw_126 : Cond.instantiable RX8 8 ∈ rx_tbl := rx_tw 126 (by decide +kernel) rfl
theorem iw_127 : Cond.methodLink RX11 9 yX8_init ∈ rx_tbl := rx_tw 127 (by decide +kernel) rfl
theorem iw_128 : Cond.instanceMethod yX8_init ∈ rx_tbl := rx_tw 128 (by decide +kernel) rfl
theorem iw_130 : Cond.methodLink RX8 3 Lib.objectInit ∈ rx_tbl := rx_tw 130 (by decide +kernel) rfl
theorem iw_131 : Cond.methodLink RX8 18 yX8_become ∈ rx_tbl := rx_tw 131 (by decide +kernel) rfl
theorem iw_132 : Cond.instanceMethod yX8_become ∈ rx_tbl := rx_tw 132 (by decide +kernel) rfl
theorem iw_133 : Cond.selects RX8 yX8_become yX8_become ∈ rx_tbl := rx_tw 133 (by decide +kernel) rfl
theorem iw_139 : Cond.fieldLink RX8 11 "FlungFingers$Rule" "thrown" "[I" ∈ rx_tbl := rx_tw 139 (by decide +kernel) rfl
theorem iw_140 : Cond.fieldLink RX8 15 "FlungFingers$Rule" "called" "[I" ∈ rx_tbl := rx_tw 140 (by decide +kernel) rfl
theorem iw_178 : Cond.arrayClass .int ∈ rx_tbl := rx_tw 178 (by decide +kernel) rfl
theorem iw_179 : Cond.classLink RX11 16 RX3 ∈ rx_tbl := rx_tw 179 (by decide +kernel) rfl
theorem iw_180 : Cond.instantiable RX3 9 ∈ rx_tbl := rx_tw 180 (by decide +kernel) rfl
theorem iw_181 : Cond.methodLink RX11 18 yX3_init ∈ rx_tbl := rx_tw 181 (by decide +kernel) rfl
theorem iw_182 : Cond.instanceMethod yX3_init ∈ rx_tbl := rx_tw 182 (by decide +kernel) rfl
theorem iw_184 : Cond.methodLink RX3 5 Lib.objectInit ∈ rx_tbl := rx_tw 184 (by decide +kernel) rfl
theorem iw_185 : Cond.fieldLink RX3 31 "FlungFingers$Game" "law" "LFlungFingers$Rule;" ∈ rx_tbl := rx_tw 185 (by decide +kernel) rfl
theorem iw_186 : Cond.fieldLink RX3 13 "FlungFingers$Game" "cells" "[J" ∈ rx_tbl := rx_tw 186 (by decide +kernel) rfl
theorem iw_187 : Cond.fieldLink RX3 17 "FlungFingers$Game" "in" "[I" ∈ rx_tbl := rx_tw 187 (by decide +kernel) rfl
theorem iw_188 : Cond.fieldLink RX3 21 "FlungFingers$Game" "second" "[J" ∈ rx_tbl := rx_tw 188 (by decide +kernel) rfl
theorem iw_191 : Cond.fieldLink RX3 24 "FlungFingers$Game" "d" "J" ∈ rx_tbl := rx_tw 191 (by decide +kernel) rfl
theorem iw_192 : Cond.fieldLink RX3 28 "FlungFingers$Game" "z" "J" ∈ rx_tbl := rx_tw 192 (by decide +kernel) rfl
theorem iw_217 : Cond.arrayClass .long ∈ rx_tbl := rx_tw 217 (by decide +kernel) rfl
theorem iw_218 : Cond.classLink RX11 25 RX2 ∈ rx_tbl := rx_tw 218 (by decide +kernel) rfl
theorem iw_219 : Cond.instantiable RX2 5 ∈ rx_tbl := rx_tw 219 (by decide +kernel) rfl
theorem iw_220 : Cond.methodLink RX11 27 yX2_init ∈ rx_tbl := rx_tw 220 (by decide +kernel) rfl
theorem iw_221 : Cond.instanceMethod yX2_init ∈ rx_tbl := rx_tw 221 (by decide +kernel) rfl
theorem iw_223 : Cond.methodLink RX2 1 Lib.objectInit ∈ rx_tbl := rx_tw 223 (by decide +kernel) rfl
theorem iw_224 : Cond.classLink RX2 7 RX1 ∈ rx_tbl := rx_tw 224 (by decide +kernel) rfl
theorem iw_225 : Cond.instantiable RX1 2 ∈ rx_tbl := rx_tw 225 (by decide +kernel) rfl
theorem in_226 : Cond.methodLinkNest RX2 9 yX1_init "FlungFingers" ∈ rx_nest := rx_tn 226 (by decide +kernel) rfl
theorem iw_227 : Cond.instanceMethod yX1_init ∈ rx_tbl := rx_tw 227 (by decide +kernel) rfl
theorem iw_229 : Cond.methodLink RX1 3 Lib.objectInit ∈ rx_tbl := rx_tw 229 (by decide +kernel) rfl
theorem iw_230 : Cond.fieldLink RX1 9 "FlungFingers$Big" "digits" "[I" ∈ rx_tbl := rx_tw 230 (by decide +kernel) rfl
theorem iw_239 : Cond.methodLink RX2 25 yX1_become ∈ rx_tbl := rx_tw 239 (by decide +kernel) rfl
theorem iw_240 : Cond.instanceMethod yX1_become ∈ rx_tbl := rx_tw 240 (by decide +kernel) rfl
theorem iw_241 : Cond.selects RX1 yX1_become yX1_become ∈ rx_tbl := rx_tw 241 (by decide +kernel) rfl
theorem iw_248 : Cond.fieldLink RX2 10 "FlungFingers$Fraction" "above" "LFlungFingers$Big;" ∈ rx_tbl := rx_tw 248 (by decide +kernel) rfl
theorem iw_249 : Cond.fieldLink RX2 16 "FlungFingers$Fraction" "below" "LFlungFingers$Big;" ∈ rx_tbl := rx_tw 249 (by decide +kernel) rfl
theorem iw_250 : Cond.fieldLink RX2 19 "FlungFingers$Fraction" "common" "LFlungFingers$Big;" ∈ rx_tbl := rx_tw 250 (by decide +kernel) rfl
theorem iw_251 : Cond.fieldLink RX2 22 "FlungFingers$Fraction" "spare" "LFlungFingers$Big;" ∈ rx_tbl := rx_tw 251 (by decide +kernel) rfl
theorem iw_265 : Cond.classLink RX11 32 RX5 ∈ rx_tbl := rx_tw 265 (by decide +kernel) rfl
theorem iw_266 : Cond.instantiable RX5 7 ∈ rx_tbl := rx_tw 266 (by decide +kernel) rfl
theorem iw_267 : Cond.methodLink RX11 34 yX5_init ∈ rx_tbl := rx_tw 267 (by decide +kernel) rfl
theorem iw_268 : Cond.instanceMethod yX5_init ∈ rx_tbl := rx_tw 268 (by decide +kernel) rfl
theorem iw_270 : Cond.methodLink RX5 3 Lib.objectInit ∈ rx_tbl := rx_tw 270 (by decide +kernel) rfl
theorem iw_271 : Cond.constantLong RX5 19 (2) ∈ rx_tbl := rx_tw 271 (by decide +kernel) rfl
theorem iw_272 : Cond.fieldLink RX5 27 "FlungFingers$Match" "law" "LFlungFingers$Rule;" ∈ rx_tbl := rx_tw 272 (by decide +kernel) rfl
theorem iw_273 : Cond.fieldLink RX5 31 "FlungFingers$Match" "game" "LFlungFingers$Game;" ∈ rx_tbl := rx_tw 273 (by decide +kernel) rfl
theorem iw_274 : Cond.fieldLink RX5 9 "FlungFingers$Match" "row" "[J" ∈ rx_tbl := rx_tw 274 (by decide +kernel) rfl
theorem iw_275 : Cond.fieldLink RX5 15 "FlungFingers$Match" "hit" "J" ∈ rx_tbl := rx_tw 275 (by decide +kernel) rfl
theorem iw_276 : Cond.fieldLink RX5 21 "FlungFingers$Match" "base" "J" ∈ rx_tbl := rx_tw 276 (by decide +kernel) rfl
theorem iw_279 : Cond.fieldLink RX5 24 "FlungFingers$Match" "below" "J" ∈ rx_tbl := rx_tw 279 (by decide +kernel) rfl
theorem iw_296 : Cond.classLink RX11 41 RX6 ∈ rx_tbl := rx_tw 296 (by decide +kernel) rfl
theorem iw_297 : Cond.instantiable RX6 7 ∈ rx_tbl := rx_tw 297 (by decide +kernel) rfl
theorem iw_298 : Cond.methodLink RX11 43 yX6_init ∈ rx_tbl := rx_tw 298 (by decide +kernel) rfl
theorem iw_299 : Cond.instanceMethod yX6_init ∈ rx_tbl := rx_tw 299 (by decide +kernel) rfl
theorem iw_301 : Cond.methodLink RX6 3 Lib.objectInit ∈ rx_tbl := rx_tw 301 (by decide +kernel) rfl
theorem iw_302 : Cond.classLink RX6 26 RX10 ∈ rx_tbl := rx_tw 302 (by decide +kernel) rfl
theorem iw_303 : Cond.instantiable RX10 4 ∈ rx_tbl := rx_tw 303 (by decide +kernel) rfl
theorem in_304 : Cond.methodLinkNest RX6 28 yX10_init "FlungFingers" ∈ rx_nest := rx_tn 304 (by decide +kernel) rfl
theorem iw_305 : Cond.instanceMethod yX10_init ∈ rx_tbl := rx_tw 305 (by decide +kernel) rfl
theorem iw_307 : Cond.methodLink RX10 1 Lib.objectInit ∈ rx_tbl := rx_tw 307 (by decide +kernel) rfl
theorem iw_308 : Cond.classLink RX10 7 RX1 ∈ rx_tbl := rx_tw 308 (by decide +kernel) rfl
theorem in_309 : Cond.methodLinkNest RX10 9 yX1_init "FlungFingers" ∈ rx_nest := rx_tn 309 (by decide +kernel) rfl
theorem iw_310 : Cond.fieldLink RX10 10 "FlungFingers$Tail" "sum" "LFlungFingers$Big;" ∈ rx_tbl := rx_tw 310 (by decide +kernel) rfl
theorem iw_312 : Cond.fieldLink RX10 16 "FlungFingers$Tail" "power" "LFlungFingers$Big;" ∈ rx_tbl := rx_tw 312 (by decide +kernel) rfl
theorem iw_314 : Cond.fieldLink RX10 19 "FlungFingers$Tail" "term" "LFlungFingers$Big;" ∈ rx_tbl := rx_tw 314 (by decide +kernel) rfl
theorem iw_315 : Cond.fieldLink RX10 22 "FlungFingers$Tail" "limit" "LFlungFingers$Big;" ∈ rx_tbl := rx_tw 315 (by decide +kernel) rfl
theorem iw_325 : Cond.fieldLink RX6 33 "FlungFingers$Men" "law" "LFlungFingers$Rule;" ∈ rx_tbl := rx_tw 325 (by decide +kernel) rfl
theorem iw_326 : Cond.fieldLink RX6 11 "FlungFingers$Men" "rows" "[I" ∈ rx_tbl := rx_tw 326 (by decide +kernel) rfl
theorem iw_327 : Cond.fieldLink RX6 15 "FlungFingers$Men" "lengths" "[I" ∈ rx_tbl := rx_tw 327 (by decide +kernel) rfl
theorem iw_328 : Cond.fieldLink RX6 20 "FlungFingers$Men" "counts" "[I" ∈ rx_tbl := rx_tw 328 (by decide +kernel) rfl
theorem iw_329 : Cond.fieldLink RX6 23 "FlungFingers$Men" "codes" "[I" ∈ rx_tbl := rx_tw 329 (by decide +kernel) rfl
theorem iw_331 : Cond.fieldLink RX6 29 "FlungFingers$Men" "chances" "LFlungFingers$Tail;" ∈ rx_tbl := rx_tw 331 (by decide +kernel) rfl
theorem iw_348 : Cond.classLink RX11 48 RX7 ∈ rx_tbl := rx_tw 348 (by decide +kernel) rfl
theorem iw_349 : Cond.instantiable RX7 17 ∈ rx_tbl := rx_tw 349 (by decide +kernel) rfl
theorem iw_350 : Cond.methodLink RX11 50 yX7_init ∈ rx_tbl := rx_tw 350 (by decide +kernel) rfl
theorem iw_351 : Cond.instanceMethod yX7_init ∈ rx_tbl := rx_tw 351 (by decide +kernel) rfl
theorem iw_353 : Cond.methodLink RX7 3 Lib.objectInit ∈ rx_tbl := rx_tw 353 (by decide +kernel) rfl
theorem iw_354 : Cond.classLink RX7 23 RX1 ∈ rx_tbl := rx_tw 354 (by decide +kernel) rfl
theorem in_355 : Cond.methodLinkNest RX7 25 yX1_init "FlungFingers" ∈ rx_nest := rx_tn 355 (by decide +kernel) rfl
theorem iw_356 : Cond.fieldLink RX7 50 "FlungFingers$Reply" "law" "LFlungFingers$Rule;" ∈ rx_tbl := rx_tw 356 (by decide +kernel) rfl
theorem iw_357 : Cond.fieldLink RX7 54 "FlungFingers$Reply" "game" "LFlungFingers$Game;" ∈ rx_tbl := rx_tw 357 (by decide +kernel) rfl
theorem iw_358 : Cond.fieldLink RX7 11 "FlungFingers$Reply" "weight" "[J" ∈ rx_tbl := rx_tw 358 (by decide +kernel) rfl
theorem iw_359 : Cond.fieldLink RX7 17 "FlungFingers$Reply" "means" "[J" ∈ rx_tbl := rx_tw 359 (by decide +kernel) rfl
theorem iw_360 : Cond.fieldLink RX7 20 "FlungFingers$Reply" "earned" "[J" ∈ rx_tbl := rx_tw 360 (by decide +kernel) rfl
theorem iw_361 : Cond.fieldLink RX7 26 "FlungFingers$Reply" "one" "LFlungFingers$Big;" ∈ rx_tbl := rx_tw 361 (by decide +kernel) rfl
theorem iw_362 : Cond.fieldLink RX7 30 "FlungFingers$Reply" "two" "LFlungFingers$Big;" ∈ rx_tbl := rx_tw 362 (by decide +kernel) rfl
theorem iw_363 : Cond.fieldLink RX7 33 "FlungFingers$Reply" "mine" "LFlungFingers$Big;" ∈ rx_tbl := rx_tw 363 (by decide +kernel) rfl
theorem iw_364 : Cond.fieldLink RX7 36 "FlungFingers$Reply" "other" "LFlungFingers$Big;" ∈ rx_tbl := rx_tw 364 (by decide +kernel) rfl
theorem iw_367 : Cond.fieldLink RX7 39 "FlungFingers$Reply" "best" "I" ∈ rx_tbl := rx_tw 367 (by decide +kernel) rfl
theorem iw_370 : Cond.fieldLink RX7 43 "FlungFingers$Reply" "newLow" "J" ∈ rx_tbl := rx_tw 370 (by decide +kernel) rfl
theorem iw_373 : Cond.fieldLink RX7 47 "FlungFingers$Reply" "low" "J" ∈ rx_tbl := rx_tw 373 (by decide +kernel) rfl
theorem iw_410 : Cond.classLink RX11 55 RX9 ∈ rx_tbl := rx_tw 410 (by decide +kernel) rfl
theorem iw_411 : Cond.instantiable RX9 9 ∈ rx_tbl := rx_tw 411 (by decide +kernel) rfl
theorem iw_412 : Cond.methodLink RX11 57 yX9_init ∈ rx_tbl := rx_tw 412 (by decide +kernel) rfl
theorem iw_413 : Cond.instanceMethod yX9_init ∈ rx_tbl := rx_tw 413 (by decide +kernel) rfl
theorem iw_415 : Cond.methodLink RX9 5 Lib.objectInit ∈ rx_tbl := rx_tw 415 (by decide +kernel) rfl
theorem iw_416 : Cond.fieldLink RX9 36 "FlungFingers$Slate" "law" "LFlungFingers$Rule;" ∈ rx_tbl := rx_tw 416 (by decide +kernel) rfl
theorem iw_417 : Cond.fieldLink RX9 11 "FlungFingers$Slate" "noted" "[I" ∈ rx_tbl := rx_tw 417 (by decide +kernel) rfl
theorem iw_418 : Cond.fieldLink RX9 15 "FlungFingers$Slate" "disputed" "[Z" ∈ rx_tbl := rx_tw 418 (by decide +kernel) rfl
theorem iw_419 : Cond.fieldLink RX9 19 "FlungFingers$Slate" "reach" "[I" ∈ rx_tbl := rx_tw 419 (by decide +kernel) rfl
theorem iw_420 : Cond.fieldLink RX9 22 "FlungFingers$Slate" "fillsNow" "[J" ∈ rx_tbl := rx_tw 420 (by decide +kernel) rfl
theorem iw_421 : Cond.fieldLink RX9 26 "FlungFingers$Slate" "fillsBehind" "[J" ∈ rx_tbl := rx_tw 421 (by decide +kernel) rfl
theorem iw_422 : Cond.fieldLink RX9 29 "FlungFingers$Slate" "filled" "I" ∈ rx_tbl := rx_tw 422 (by decide +kernel) rfl
theorem iw_423 : Cond.fieldLink RX9 33 "FlungFingers$Slate" "goal" "I" ∈ rx_tbl := rx_tw 423 (by decide +kernel) rfl
theorem iw_446 : Cond.arrayClass .boolean ∈ rx_tbl := rx_tw 446 (by decide +kernel) rfl
theorem iw_447 : Cond.classLink RX11 62 RX0 ∈ rx_tbl := rx_tw 447 (by decide +kernel) rfl
theorem iw_448 : Cond.instantiable RX0 6 ∈ rx_tbl := rx_tw 448 (by decide +kernel) rfl
theorem in_449 : Cond.methodLinkNest RX11 64 yX0_init "FlungFingers" ∈ rx_nest := rx_tn 449 (by decide +kernel) rfl
theorem iw_450 : Cond.instanceMethod yX0_init ∈ rx_tbl := rx_tw 450 (by decide +kernel) rfl
theorem iw_452 : Cond.methodLink RX0 3 Lib.objectInit ∈ rx_tbl := rx_tw 452 (by decide +kernel) rfl
theorem iw_453 : Cond.fieldLink RX0 11 "FlungFingers$Beats" "at" "[I" ∈ rx_tbl := rx_tw 453 (by decide +kernel) rfl
theorem iw_454 : Cond.fieldLink RX0 15 "FlungFingers$Beats" "scorer" "[I" ∈ rx_tbl := rx_tw 454 (by decide +kernel) rfl
theorem iw_457 : Cond.fieldLink RX0 18 "FlungFingers$Beats" "slack" "I" ∈ rx_tbl := rx_tw 457 (by decide +kernel) rfl
theorem iw_461 : Cond.fieldLink RX0 22 "FlungFingers$Beats" "below" "J" ∈ rx_tbl := rx_tw 461 (by decide +kernel) rfl
theorem iw_476 : Cond.classLink RX11 69 RX4 ∈ rx_tbl := rx_tw 476 (by decide +kernel) rfl
theorem iw_477 : Cond.instantiable RX4 9 ∈ rx_tbl := rx_tw 477 (by decide +kernel) rfl
theorem in_478 : Cond.methodLinkNest RX11 71 yX4_init "FlungFingers" ∈ rx_nest := rx_tn 478 (by decide +kernel) rfl
theorem iw_479 : Cond.instanceMethod yX4_init ∈ rx_tbl := rx_tw 479 (by decide +kernel) rfl
theorem iw_481 : Cond.methodLink RX4 3 Lib.objectInit ∈ rx_tbl := rx_tw 481 (by decide +kernel) rfl
theorem iw_482 : Cond.fieldLink RX4 11 "FlungFingers$League" "points" "[I" ∈ rx_tbl := rx_tw 482 (by decide +kernel) rfl
theorem iw_484 : Cond.fieldLink RX4 15 "FlungFingers$League" "after" "[I" ∈ rx_tbl := rx_tw 484 (by decide +kernel) rfl
theorem iw_485 : Cond.fieldLink RX4 18 "FlungFingers$League" "one" "[I" ∈ rx_tbl := rx_tw 485 (by decide +kernel) rfl
theorem iw_486 : Cond.fieldLink RX4 21 "FlungFingers$League" "other" "[I" ∈ rx_tbl := rx_tw 486 (by decide +kernel) rfl
theorem iw_487 : Cond.fieldLink RX4 24 "FlungFingers$League" "trial" "[I" ∈ rx_tbl := rx_tw 487 (by decide +kernel) rfl
theorem iw_488 : Cond.fieldLink RX4 27 "FlungFingers$League" "results" "[I" ∈ rx_tbl := rx_tw 488 (by decide +kernel) rfl
theorem iw_513 : Cond.fieldLink RX11 10 "FlungFingers" "law" "LFlungFingers$Rule;" ∈ rx_tbl := rx_tw 513 (by decide +kernel) rfl
theorem iw_514 : Cond.fieldLink RX11 21 "FlungFingers" "game" "LFlungFingers$Game;" ∈ rx_tbl := rx_tw 514 (by decide +kernel) rfl
theorem iw_515 : Cond.fieldLink RX11 28 "FlungFingers" "fraction" "LFlungFingers$Fraction;" ∈ rx_tbl := rx_tw 515 (by decide +kernel) rfl
theorem iw_516 : Cond.fieldLink RX11 37 "FlungFingers" "match" "LFlungFingers$Match;" ∈ rx_tbl := rx_tw 516 (by decide +kernel) rfl
theorem iw_517 : Cond.fieldLink RX11 44 "FlungFingers" "men" "LFlungFingers$Men;" ∈ rx_tbl := rx_tw 517 (by decide +kernel) rfl
theorem iw_518 : Cond.fieldLink RX11 51 "FlungFingers" "reply" "LFlungFingers$Reply;" ∈ rx_tbl := rx_tw 518 (by decide +kernel) rfl
theorem iw_519 : Cond.fieldLink RX11 58 "FlungFingers" "marks" "LFlungFingers$Slate;" ∈ rx_tbl := rx_tw 519 (by decide +kernel) rfl
theorem iw_520 : Cond.fieldLink RX11 65 "FlungFingers" "beats" "LFlungFingers$Beats;" ∈ rx_tbl := rx_tw 520 (by decide +kernel) rfl
theorem iw_521 : Cond.fieldLink RX11 72 "FlungFingers" "league" "LFlungFingers$League;" ∈ rx_tbl := rx_tw 521 (by decide +kernel) rfl
theorem iw_522 : Cond.fieldLink RX11 76 "FlungFingers" "oddsNow" "I" ∈ rx_tbl := rx_tw 522 (by decide +kernel) rfl
theorem iw_1277 : Cond.methodLink RX12 1 Lib.objectInit ∈ rx_tbl := rx_tw 1277 (by decide +kernel) rfl
theorem iw_1278 : Cond.constant RX12 7 (87744) ∈ rx_tbl := rx_tw 1278 (by decide +kernel) rfl
theorem iw_1279 : Cond.constant RX12 59 (36900) ∈ rx_tbl := rx_tw 1279 (by decide +kernel) rfl
theorem iw_1280 : Cond.methodLink RX12 90 yX12_set ∈ rx_tbl := rx_tw 1280 (by decide +kernel) rfl
theorem iw_1282 : Cond.instanceMethod yX12_set ∈ rx_tbl := rx_tw 1282 (by decide +kernel) rfl
theorem iw_1285 : Cond.methodLink RX12 94 yX12_layRule ∈ rx_tbl := rx_tw 1285 (by decide +kernel) rfl
theorem iw_1287 : Cond.instanceMethod yX12_layRule ∈ rx_tbl := rx_tw 1287 (by decide +kernel) rfl
theorem iw_1376 : Cond.fieldLink RX12 8 "FlungFingersModel" "limb" "[I" ∈ rx_tbl := rx_tw 1376 (by decide +kernel) rfl
theorem iw_1377 : Cond.fieldLink RX12 14 "FlungFingersModel" "length" "[I" ∈ rx_tbl := rx_tw 1377 (by decide +kernel) rfl
theorem iw_1378 : Cond.fieldLink RX12 17 "FlungFingersModel" "sign" "[I" ∈ rx_tbl := rx_tw 1378 (by decide +kernel) rfl
theorem iw_1379 : Cond.fieldLink RX12 20 "FlungFingersModel" "work" "[I" ∈ rx_tbl := rx_tw 1379 (by decide +kernel) rfl
theorem iw_1380 : Cond.fieldLink RX12 23 "FlungFingersModel" "top" "[J" ∈ rx_tbl := rx_tw 1380 (by decide +kernel) rfl
theorem iw_1381 : Cond.fieldLink RX12 27 "FlungFingersModel" "under" "[J" ∈ rx_tbl := rx_tw 1381 (by decide +kernel) rfl
theorem iw_1390 : Cond.fieldLink RX12 30 "FlungFingersModel" "ins" "[I" ∈ rx_tbl := rx_tw 1390 (by decide +kernel) rfl
theorem iw_1391 : Cond.fieldLink RX12 33 "FlungFingersModel" "rowSize" "[I" ∈ rx_tbl := rx_tw 1391 (by decide +kernel) rfl
theorem iw_1392 : Cond.fieldLink RX12 36 "FlungFingersModel" "row" "[I" ∈ rx_tbl := rx_tw 1392 (by decide +kernel) rfl
theorem iw_1393 : Cond.fieldLink RX12 39 "FlungFingersModel" "odds" "I" ∈ rx_tbl := rx_tw 1393 (by decide +kernel) rfl
theorem iw_1394 : Cond.fieldLink RX12 43 "FlungFingersModel" "counts" "[I" ∈ rx_tbl := rx_tw 1394 (by decide +kernel) rfl
theorem iw_1396 : Cond.fieldLink RX12 46 "FlungFingersModel" "mean" "[J" ∈ rx_tbl := rx_tw 1396 (by decide +kernel) rfl
theorem iw_1399 : Cond.fieldLink RX12 49 "FlungFingersModel" "goal" "I" ∈ rx_tbl := rx_tw 1399 (by decide +kernel) rfl
theorem iw_1401 : Cond.fieldLink RX12 52 "FlungFingersModel" "mark" "[I" ∈ rx_tbl := rx_tw 1401 (by decide +kernel) rfl
theorem iw_1402 : Cond.fieldLink RX12 55 "FlungFingersModel" "isDisputed" "[Z" ∈ rx_tbl := rx_tw 1402 (by decide +kernel) rfl
theorem iw_1403 : Cond.fieldLink RX12 60 "FlungFingersModel" "paths" "[J" ∈ rx_tbl := rx_tw 1403 (by decide +kernel) rfl
theorem iw_1404 : Cond.fieldLink RX12 63 "FlungFingersModel" "isLive" "[Z" ∈ rx_tbl := rx_tw 1404 (by decide +kernel) rfl
theorem iw_1406 : Cond.fieldLink RX12 66 "FlungFingersModel" "beatOf" "[I" ∈ rx_tbl := rx_tw 1406 (by decide +kernel) rfl
theorem iw_1407 : Cond.fieldLink RX12 69 "FlungFingersModel" "scoredBy" "[I" ∈ rx_tbl := rx_tw 1407 (by decide +kernel) rfl
theorem iw_1408 : Cond.fieldLink RX12 72 "FlungFingersModel" "beat" "I" ∈ rx_tbl := rx_tw 1408 (by decide +kernel) rfl
theorem iw_1413 : Cond.fieldLink RX12 75 "FlungFingersModel" "has" "[I" ∈ rx_tbl := rx_tw 1413 (by decide +kernel) rfl
theorem iw_1416 : Cond.fieldLink RX12 78 "FlungFingersModel" "leftA" "[I" ∈ rx_tbl := rx_tw 1416 (by decide +kernel) rfl
theorem iw_1417 : Cond.fieldLink RX12 81 "FlungFingersModel" "leftB" "[I" ∈ rx_tbl := rx_tw 1417 (by decide +kernel) rfl
theorem iw_1419 : Cond.fieldLink RX12 84 "FlungFingersModel" "results" "[I" ∈ rx_tbl := rx_tw 1419 (by decide +kernel) rfl
theorem iw_1420 : Cond.fieldLink RX12 87 "FlungFingersModel" "draft" "[I" ∈ rx_tbl := rx_tw 1420 (by decide +kernel) rfl
theorem ac_int {D : va_G} {s : State} {cs : Nat → ClassId} {cA : ClassId} (hK : va_K D vwCl (rx_ty cs) s) (h : va_K D vwCl (rx_ty cs ++ [(cA, .int)]) s) : cs 0 = cA := Option.some.inj ((hK.2 0 _ rfl).2.symm.trans (h.2 3 _ rfl).2)
theorem ac_long {D : va_G} {s : State} {cs : Nat → ClassId} {cA : ClassId} (hK : va_K D vwCl (rx_ty cs) s) (h : va_K D vwCl (rx_ty cs ++ [(cA, .long)]) s) : cs 1 = cA := Option.some.inj ((hK.2 1 _ rfl).2.symm.trans (h.2 3 _ rfl).2)
theorem ac_boolean {D : va_G} {s : State} {cs : Nat → ClassId} {cA : ClassId} (hK : va_K D vwCl (rx_ty cs) s) (h : va_K D vwCl (rx_ty cs ++ [(cA, .boolean)]) s) : cs 2 = cA := Option.some.inj ((hK.2 2 _ rfl).2.symm.trans (h.2 3 _ rfl).2)
def adL : List (Nat × Nat) → Nat → Nat
  | [], _ => 0
  | (i, a) :: l, j => match Nat.beq i j with
    | true => a
    | false => adL l j
theorem RuleOK_0 : RuleOK 0 1 2 2 := by unfold RuleOK; omega
theorem di_X1_0 : decode cX1_init 0 = .ok (.aload_n 0, 1) := by decide +kernel
theorem di_X1_1 : decode cX1_init 1 = .ok (.invokespecial 3, 3) := by decide +kernel
theorem di_X1_4 : decode cX1_init 4 = .ok (.aload_n 0, 1) := by decide +kernel
theorem di_X1_5 : decode cX1_init 5 = .ok (.bipush 16, 2) := by decide +kernel
theorem di_X1_7 : decode cX1_init 7 = .ok (.newarray .int, 2) := by decide +kernel
theorem di_X1_9 : decode cX1_init 9 = .ok (.putfield 9, 3) := by decide +kernel
theorem di_X1_12 : decode cX1_init 12 = .ok (.return_, 1) := by decide +kernel
def MI_X1 : rxM := (yX1_init, cX1_init, 1, none)
theorem gI_X1 : rx_gM MI_X1 0 := ⟨rx_tw 228 (by decide +kernel) rfl, iw_103, ⟨by decide +kernel, by decide +kernel, by decide +kernel⟩, by decide⟩
set_option maxRecDepth 100000 in
set_option maxHeartbeats 4000000 in
theorem CI_X1 (l : Launch) (D : va_G) (cs : Nat → ClassId) (h0 : Nat) (sz : Nat) : Met l MI_X1.1 (rx_ws MI_X1) ({ frames := 2, cells := 1, slots := 16, locals := 128 }) (va_Pc [.ref h0] (fun U => U.heap.size = sz ∧ va_P D vwCl [(h0, .inr (1, [.null, .int 0]))] U.heap ∧ va_K D vwCl (rx_ty cs) U ∧ va_D (fun _ => True) [(h0, .inr (1, [.null, .int 0]))] ∧ rx_N U)) (va_Qv (fun _ : Nat → Nat => True) (fun u t => va_P D vwCl [(h0, .inr (1, [.ref (u 0), .int 0])), ((u 0), .inl (cs 0, 16, .inl (fun _ => 0)))] t.heap ∧ va_D (va_A [(h0, .inr (1, [.null, .int 0]))] sz) [(h0, .inr (1, [.ref (u 0), .int 0])), ((u 0), .inl (cs 0, 16, .inl (fun _ => 0)))]) (va_A [(h0, .inr (1, [.null, .int 0]))] sz)) 1 16 (va_A [(h0, .inr (1, [.null, .int 0]))] sz) := by
  refine Met.ofW (cc := cX1_init) (maxL := 1) (ret := none) (by decide) rfl ?_
  intro p e s m args below meth c s₁ B hml hv
  obtain ⟨rfl, hsz, hP, hK, hD0, hN⟩ := hv
  have hx := B.exec
  have hb := B.bytes
  have hr := B.returns
  have hts0 := atoms_spec (ws := rx_ws MI_X1) B.pre
  have hts : ∀ w ∈ rx_tbl, w.before _ s = true := fun w hw => hts0 w (List.mem_cons_of_mem _ hw)
  have hown : s.vm.findClass RX1 = some m.cls := findClass_of_methodNamed B.named
  have hlocks := B.notSynchronized
  have hin : meth.name = "<init>" := (name_of_methodNamed B.named B.method).1
  subst hsz
  have hD := hD0.self (sz := s.heap.size)
  generalize hAe : va_A [(h0, .inr (1, [.null, .int 0]))] s.heap.size = A at hD ⊢
  have hA : ∀ q : Nat, s.heap.size ≤ q → A q := fun q h => by rw [← hAe]; exact Or.inr h
  have hS : va_S A s.heap s.heap [] := va_S.rf
  have hl := lv_entry ([.ref h0]) (n := 1) (Nat.le_of_ble_eq_true rfl)
  rw [lg_entry_eq]
  generalize (lg_sl ([.ref h0]) ++ List.replicate (1 - (lg_sl ([.ref h0])).length) Slot.unset).toArray = ls at hl ⊢
  have hl : lv_has ls 1 [(0, .ref h0)] := hl
  refine lv_aload_n hx hb di_X1_0 rfl (lv_at hl 0 rfl) ?_
  refine W.objInit hx hb hown (hts _ iw_229) (hts _ iw_123) (hts _ iw_124) rfl (by rw [hml]; exact hl.1) rfl di_X1_1 (Nat.le_of_ble_eq_true rfl) (Nat.le_of_ble_eq_true rfl) ?_
  refine W.eq (g2 := F0 m 4 ls []) rfl ?_
  refine lv_aload_n hx hb di_X1_4 rfl (lv_at hl 0 rfl) ?_
  refine lv_bipush (v := 16) hx hb di_X1_5 (by decide) ?_
  refine va_newa (atype := .int) (a0 := (16, .inl (fun _ => 0))) hx hb (hts _ iw_178) rfl hK hP hD hS hA (fun _ => rfl) (by decide) (by decide +kernel) (by decide +kernel) (Nat.le_of_ble_eq_true rfl) (Nat.le_of_ble_eq_true rfl) di_X1_7 (fun q7 cA H hK1 hP hD hS => ?_)
  obtain rfl := ac_int hK hK1
  have hP : va_P D vwCl [(h0, .inr (1, [.null, .int 0])), (q7, .inl (cs 0, 16, .inl (fun _ => 0)))] H := hP
  have hD : va_D A [(h0, .inr (1, [.null, .int 0])), (q7, .inl (cs 0, 16, .inl (fun _ => 0)))] := hD
  refine va_putF (D := D) (ci := 1) (v := .ref q7) (ty := .array .int) (C := RX1) (T := TX1) (N := 2) hx hb hts cl_1.2.1 tyX1 tyX1_ok nmX1 hown hK hP hD hS 0 rfl rfl 0 (by decide) (hts (.fieldLink RX1 9 "FlungFingers$Big" "digits" "[I") iw_230) (fun _ h9 => h9) rfl hin rfl (by decide +kernel) rfl rfl (Nat.le_of_ble_eq_true rfl) di_X1_9 (fun H locs hP hD hS => ?_)
  have hP : va_P D vwCl [(h0, .inr (1, [.ref q7, .int 0])), (q7, .inl (cs 0, 16, .inl (fun _ => 0)))] H := hP
  have hD : va_D A [(h0, .inr (1, [.ref q7, .int 0])), (q7, .inl (cs 0, 16, .inl (fun _ => 0)))] := hD
  refine W.widen (k := 1) (n := 16) (Nat.le_of_ble_eq_true rfl) (Nat.le_of_ble_eq_true rfl) ?_
  exact W.vret hx hb hr (fun t ht hW => ⟨⟨(fun j => ([q7] : List Nat).getD j 0), rfl, trivial, by rw [ht]; exact hP, hD⟩, hS.F ht⟩) hS.2.2 di_X1_12
theorem di_X3_0 : decode cX3_init 0 = .ok (.aload_n 0, 1) := by decide +kernel
theorem di_X3_1 : decode cX3_init 1 = .ok (.invokespecial 5, 3) := by decide +kernel
theorem di_X3_4 : decode cX3_init 4 = .ok (.aload_n 0, 1) := by decide +kernel
theorem di_X3_5 : decode cX3_init 5 = .ok (.sipush 1326, 3) := by decide +kernel
theorem di_X3_8 : decode cX3_init 8 = .ok (.newarray .long, 2) := by decide +kernel
theorem di_X3_10 : decode cX3_init 10 = .ok (.putfield 13, 3) := by decide +kernel
theorem di_X3_13 : decode cX3_init 13 = .ok (.aload_n 0, 1) := by decide +kernel
theorem di_X3_14 : decode cX3_init 14 = .ok (.bipush 25, 2) := by decide +kernel
theorem di_X3_16 : decode cX3_init 16 = .ok (.newarray .int, 2) := by decide +kernel
theorem di_X3_18 : decode cX3_init 18 = .ok (.putfield 17, 3) := by decide +kernel
theorem di_X3_21 : decode cX3_init 21 = .ok (.aload_n 0, 1) := by decide +kernel
theorem di_X3_22 : decode cX3_init 22 = .ok (.bipush 25, 2) := by decide +kernel
theorem di_X3_24 : decode cX3_init 24 = .ok (.newarray .long, 2) := by decide +kernel
theorem di_X3_26 : decode cX3_init 26 = .ok (.putfield 21, 3) := by decide +kernel
theorem di_X3_29 : decode cX3_init 29 = .ok (.aload_n 0, 1) := by decide +kernel
theorem di_X3_30 : decode cX3_init 30 = .ok (.lconst 1, 1) := by decide +kernel
theorem di_X3_31 : decode cX3_init 31 = .ok (.putfield 24, 3) := by decide +kernel
theorem di_X3_34 : decode cX3_init 34 = .ok (.aload_n 0, 1) := by decide +kernel
theorem di_X3_35 : decode cX3_init 35 = .ok (.lconst 1, 1) := by decide +kernel
theorem di_X3_36 : decode cX3_init 36 = .ok (.putfield 28, 3) := by decide +kernel
theorem di_X3_39 : decode cX3_init 39 = .ok (.aload_n 0, 1) := by decide +kernel
theorem di_X3_40 : decode cX3_init 40 = .ok (.aload_n 1, 1) := by decide +kernel
theorem di_X3_41 : decode cX3_init 41 = .ok (.putfield 31, 3) := by decide +kernel
theorem di_X3_44 : decode cX3_init 44 = .ok (.return_, 1) := by decide +kernel
def MI_X3 : rxM := (yX3_init, cX3_init, 2, none)
theorem gI_X3 : rx_gM MI_X3 1 := ⟨rx_tw 183 (by decide +kernel) rfl, iw_101, ⟨by decide +kernel, by decide +kernel, by decide +kernel⟩, by decide⟩
set_option maxRecDepth 100000 in
set_option maxHeartbeats 4000000 in
theorem CI_X3 (l : Launch) (D : va_G) (cs : Nat → ClassId) (h0 a1 : Nat) (sz : Nat) : Met l MI_X3.1 (rx_ws MI_X3) ({ frames := 2, cells := 3, slots := 1376, locals := 128 }) (va_Pc [.ref h0, .ref a1] (fun U => U.heap.size = sz ∧ va_P D vwCl [(h0, .inr (3, [.null, .null, .null, .null, .int 0, .int 0, .long 0, .long 0, .int 0]))] U.heap ∧ va_K D vwCl (rx_ty cs) U ∧ va_D (fun _ => True) [(h0, .inr (3, [.null, .null, .null, .null, .int 0, .int 0, .long 0, .long 0, .int 0]))] ∧ rx_N U)) (va_Qv (fun _ : Nat → Nat => True) (fun u t => va_P D vwCl [(h0, .inr (3, [.ref a1, .ref (u 0), .ref (u 1), .ref (u 2), .int 0, .int 0, .long 1, .long 1, .int 0])), ((u 0), .inl (cs 1, 1326, .inr (.inl (fun _ => 0)))), ((u 1), .inl (cs 0, 25, .inl (fun _ => 0))), ((u 2), .inl (cs 1, 25, .inr (.inl (fun _ => 0))))] t.heap ∧ va_D (va_A [(h0, .inr (3, [.null, .null, .null, .null, .int 0, .int 0, .long 0, .long 0, .int 0]))] sz) [(h0, .inr (3, [.ref a1, .ref (u 0), .ref (u 1), .ref (u 2), .int 0, .int 0, .long 1, .long 1, .int 0])), ((u 0), .inl (cs 1, 1326, .inr (.inl (fun _ => 0)))), ((u 1), .inl (cs 0, 25, .inl (fun _ => 0))), ((u 2), .inl (cs 1, 25, .inr (.inl (fun _ => 0))))]) (va_A [(h0, .inr (3, [.null, .null, .null, .null, .int 0, .int 0, .long 0, .long 0, .int 0]))] sz)) 3 1376 (va_A [(h0, .inr (3, [.null, .null, .null, .null, .int 0, .int 0, .long 0, .long 0, .int 0]))] sz) := by
  refine Met.ofW (cc := cX3_init) (maxL := 2) (ret := none) (by decide) rfl ?_
  intro p e s m args below meth c s₁ B hml hv
  obtain ⟨rfl, hsz, hP, hK, hD0, hN⟩ := hv
  have hx := B.exec
  have hb := B.bytes
  have hr := B.returns
  have hts0 := atoms_spec (ws := rx_ws MI_X3) B.pre
  have hts : ∀ w ∈ rx_tbl, w.before _ s = true := fun w hw => hts0 w (List.mem_cons_of_mem _ hw)
  have hown : s.vm.findClass RX3 = some m.cls := findClass_of_methodNamed B.named
  have hlocks := B.notSynchronized
  have hin : meth.name = "<init>" := (name_of_methodNamed B.named B.method).1
  subst hsz
  have hD := hD0.self (sz := s.heap.size)
  generalize hAe : va_A [(h0, .inr (3, [.null, .null, .null, .null, .int 0, .int 0, .long 0, .long 0, .int 0]))] s.heap.size = A at hD ⊢
  have hA : ∀ q : Nat, s.heap.size ≤ q → A q := fun q h => by rw [← hAe]; exact Or.inr h
  have hS : va_S A s.heap s.heap [] := va_S.rf
  have hl := lv_entry ([.ref h0, .ref a1]) (n := 2) (Nat.le_of_ble_eq_true rfl)
  rw [lg_entry_eq]
  generalize (lg_sl ([.ref h0, .ref a1]) ++ List.replicate (2 - (lg_sl ([.ref h0, .ref a1])).length) Slot.unset).toArray = ls at hl ⊢
  have hl : lv_has ls 2 [(0, .ref h0), (1, .ref a1)] := hl
  refine lv_aload_n hx hb di_X3_0 rfl (lv_at hl 0 rfl) ?_
  refine W.objInit hx hb hown (hts _ iw_184) (hts _ iw_123) (hts _ iw_124) rfl (by rw [hml]; exact hl.1) rfl di_X3_1 (Nat.le_of_ble_eq_true rfl) (Nat.le_of_ble_eq_true rfl) ?_
  refine W.eq (g2 := F0 m 4 ls []) rfl ?_
  refine lv_aload_n hx hb di_X3_4 rfl (lv_at hl 0 rfl) ?_
  refine lv_sipush (v := 1326) hx hb di_X3_5 (by decide) ?_
  refine va_newa (atype := .long) (a0 := (1326, .inr (.inl (fun _ => 0)))) hx hb (hts _ iw_217) rfl hK hP hD hS hA (fun _ => rfl) (by decide) (by decide +kernel) (by decide +kernel) (Nat.le_of_ble_eq_true rfl) (Nat.le_of_ble_eq_true rfl) di_X3_8 (fun q8 cA H hK1 hP hD hS => ?_)
  obtain rfl := ac_long hK hK1
  have hP : va_P D vwCl [(h0, .inr (3, [.null, .null, .null, .null, .int 0, .int 0, .long 0, .long 0, .int 0])), (q8, .inl (cs 1, 1326, .inr (.inl (fun _ => 0))))] H := hP
  have hD : va_D A [(h0, .inr (3, [.null, .null, .null, .null, .int 0, .int 0, .long 0, .long 0, .int 0])), (q8, .inl (cs 1, 1326, .inr (.inl (fun _ => 0))))] := hD
  refine va_putF (D := D) (ci := 3) (v := .ref q8) (ty := .array .long) (C := RX3) (T := TX3) (N := 9) hx hb hts cl_3.2.1 tyX3 tyX3_ok nmX3 hown hK hP hD hS 0 rfl rfl 1 (by decide) (hts (.fieldLink RX3 13 "FlungFingers$Game" "cells" "[J") iw_186) (fun _ h9 => h9) rfl hin rfl (by decide +kernel) rfl rfl (Nat.le_of_ble_eq_true rfl) di_X3_10 (fun H locs hP hD hS => ?_)
  have hP : va_P D vwCl [(h0, .inr (3, [.null, .ref q8, .null, .null, .int 0, .int 0, .long 0, .long 0, .int 0])), (q8, .inl (cs 1, 1326, .inr (.inl (fun _ => 0))))] H := hP
  have hD : va_D A [(h0, .inr (3, [.null, .ref q8, .null, .null, .int 0, .int 0, .long 0, .long 0, .int 0])), (q8, .inl (cs 1, 1326, .inr (.inl (fun _ => 0))))] := hD
  refine lv_aload_n hx hb di_X3_13 rfl (lv_at hl 0 rfl) ?_
  refine lv_bipush (v := 25) hx hb di_X3_14 (by decide) ?_
  refine va_newa (atype := .int) (a0 := (25, .inl (fun _ => 0))) hx hb (hts _ iw_178) rfl hK hP hD hS hA (fun _ => rfl) (by decide) (by decide +kernel) (by decide +kernel) (Nat.le_of_ble_eq_true rfl) (Nat.le_of_ble_eq_true rfl) di_X3_16 (fun q16 cA H hK1 hP hD hS => ?_)
  obtain rfl := ac_int hK hK1
  have hP : va_P D vwCl [(h0, .inr (3, [.null, .ref q8, .null, .null, .int 0, .int 0, .long 0, .long 0, .int 0])), (q8, .inl (cs 1, 1326, .inr (.inl (fun _ => 0)))), (q16, .inl (cs 0, 25, .inl (fun _ => 0)))] H := hP
  have hD : va_D A [(h0, .inr (3, [.null, .ref q8, .null, .null, .int 0, .int 0, .long 0, .long 0, .int 0])), (q8, .inl (cs 1, 1326, .inr (.inl (fun _ => 0)))), (q16, .inl (cs 0, 25, .inl (fun _ => 0)))] := hD
  refine va_putF (D := D) (ci := 3) (v := .ref q16) (ty := .array .int) (C := RX3) (T := TX3) (N := 9) hx hb hts cl_3.2.1 tyX3 tyX3_ok nmX3 hown hK hP hD hS 0 rfl rfl 2 (by decide) (hts (.fieldLink RX3 17 "FlungFingers$Game" "in" "[I") iw_187) (fun _ h9 => h9) rfl hin rfl (by decide +kernel) rfl rfl (Nat.le_of_ble_eq_true rfl) di_X3_18 (fun H locs hP hD hS => ?_)
  have hP : va_P D vwCl [(h0, .inr (3, [.null, .ref q8, .ref q16, .null, .int 0, .int 0, .long 0, .long 0, .int 0])), (q8, .inl (cs 1, 1326, .inr (.inl (fun _ => 0)))), (q16, .inl (cs 0, 25, .inl (fun _ => 0)))] H := hP
  have hD : va_D A [(h0, .inr (3, [.null, .ref q8, .ref q16, .null, .int 0, .int 0, .long 0, .long 0, .int 0])), (q8, .inl (cs 1, 1326, .inr (.inl (fun _ => 0)))), (q16, .inl (cs 0, 25, .inl (fun _ => 0)))] := hD
  refine lv_aload_n hx hb di_X3_21 rfl (lv_at hl 0 rfl) ?_
  refine lv_bipush (v := 25) hx hb di_X3_22 (by decide) ?_
  refine va_newa (atype := .long) (a0 := (25, .inr (.inl (fun _ => 0)))) hx hb (hts _ iw_217) rfl hK hP hD hS hA (fun _ => rfl) (by decide) (by decide +kernel) (by decide +kernel) (Nat.le_of_ble_eq_true rfl) (Nat.le_of_ble_eq_true rfl) di_X3_24 (fun q24 cA H hK1 hP hD hS => ?_)
  obtain rfl := ac_long hK hK1
  have hP : va_P D vwCl [(h0, .inr (3, [.null, .ref q8, .ref q16, .null, .int 0, .int 0, .long 0, .long 0, .int 0])), (q8, .inl (cs 1, 1326, .inr (.inl (fun _ => 0)))), (q16, .inl (cs 0, 25, .inl (fun _ => 0))), (q24, .inl (cs 1, 25, .inr (.inl (fun _ => 0))))] H := hP
  have hD : va_D A [(h0, .inr (3, [.null, .ref q8, .ref q16, .null, .int 0, .int 0, .long 0, .long 0, .int 0])), (q8, .inl (cs 1, 1326, .inr (.inl (fun _ => 0)))), (q16, .inl (cs 0, 25, .inl (fun _ => 0))), (q24, .inl (cs 1, 25, .inr (.inl (fun _ => 0))))] := hD
  refine va_putF (D := D) (ci := 3) (v := .ref q24) (ty := .array .long) (C := RX3) (T := TX3) (N := 9) hx hb hts cl_3.2.1 tyX3 tyX3_ok nmX3 hown hK hP hD hS 0 rfl rfl 3 (by decide) (hts (.fieldLink RX3 21 "FlungFingers$Game" "second" "[J") iw_188) (fun _ h9 => h9) rfl hin rfl (by decide +kernel) rfl rfl (Nat.le_of_ble_eq_true rfl) di_X3_26 (fun H locs hP hD hS => ?_)
  have hP : va_P D vwCl [(h0, .inr (3, [.null, .ref q8, .ref q16, .ref q24, .int 0, .int 0, .long 0, .long 0, .int 0])), (q8, .inl (cs 1, 1326, .inr (.inl (fun _ => 0)))), (q16, .inl (cs 0, 25, .inl (fun _ => 0))), (q24, .inl (cs 1, 25, .inr (.inl (fun _ => 0))))] H := hP
  have hD : va_D A [(h0, .inr (3, [.null, .ref q8, .ref q16, .ref q24, .int 0, .int 0, .long 0, .long 0, .int 0])), (q8, .inl (cs 1, 1326, .inr (.inl (fun _ => 0)))), (q16, .inl (cs 0, 25, .inl (fun _ => 0))), (q24, .inl (cs 1, 25, .inr (.inl (fun _ => 0))))] := hD
  refine lv_aload_n hx hb di_X3_29 rfl (lv_at hl 0 rfl) ?_
  refine lv_lconst (v := 1) hx hb di_X3_30 (by decide) ?_
  refine va_put (D := D) (ci := 3) (v := .long 1) (ty := .long) (C := RX3) (T := TX3) (N := 9) hx hb hts cl_3.2.1 tyX3 tyX3_ok nmX3 hown hK hP hD hS 0 rfl rfl 6 (by decide) (hts (.fieldLink RX3 24 "FlungFingers$Game" "d" "J") iw_191) (fun _ h9 => h9) rfl (by decide +kernel) rfl rfl (Nat.le_of_ble_eq_true rfl) di_X3_31 (fun H locs hP hD hS => ?_)
  have hP : va_P D vwCl [(h0, .inr (3, [.null, .ref q8, .ref q16, .ref q24, .int 0, .int 0, .long 1, .long 0, .int 0])), (q8, .inl (cs 1, 1326, .inr (.inl (fun _ => 0)))), (q16, .inl (cs 0, 25, .inl (fun _ => 0))), (q24, .inl (cs 1, 25, .inr (.inl (fun _ => 0))))] H := hP
  have hD : va_D A [(h0, .inr (3, [.null, .ref q8, .ref q16, .ref q24, .int 0, .int 0, .long 1, .long 0, .int 0])), (q8, .inl (cs 1, 1326, .inr (.inl (fun _ => 0)))), (q16, .inl (cs 0, 25, .inl (fun _ => 0))), (q24, .inl (cs 1, 25, .inr (.inl (fun _ => 0))))] := hD
  refine lv_aload_n hx hb di_X3_34 rfl (lv_at hl 0 rfl) ?_
  refine lv_lconst (v := 1) hx hb di_X3_35 (by decide) ?_
  refine va_put (D := D) (ci := 3) (v := .long 1) (ty := .long) (C := RX3) (T := TX3) (N := 9) hx hb hts cl_3.2.1 tyX3 tyX3_ok nmX3 hown hK hP hD hS 0 rfl rfl 7 (by decide) (hts (.fieldLink RX3 28 "FlungFingers$Game" "z" "J") iw_192) (fun _ h9 => h9) rfl (by decide +kernel) rfl rfl (Nat.le_of_ble_eq_true rfl) di_X3_36 (fun H locs hP hD hS => ?_)
  have hP : va_P D vwCl [(h0, .inr (3, [.null, .ref q8, .ref q16, .ref q24, .int 0, .int 0, .long 1, .long 1, .int 0])), (q8, .inl (cs 1, 1326, .inr (.inl (fun _ => 0)))), (q16, .inl (cs 0, 25, .inl (fun _ => 0))), (q24, .inl (cs 1, 25, .inr (.inl (fun _ => 0))))] H := hP
  have hD : va_D A [(h0, .inr (3, [.null, .ref q8, .ref q16, .ref q24, .int 0, .int 0, .long 1, .long 1, .int 0])), (q8, .inl (cs 1, 1326, .inr (.inl (fun _ => 0)))), (q16, .inl (cs 0, 25, .inl (fun _ => 0))), (q24, .inl (cs 1, 25, .inr (.inl (fun _ => 0))))] := hD
  refine lv_aload_n hx hb di_X3_39 rfl (lv_at hl 0 rfl) ?_
  refine lv_aload_n hx hb di_X3_40 rfl (lv_at hl 1 rfl) ?_
  refine va_putF (D := D) (ci := 3) (v := .ref a1) (ty := .object "FlungFingers$Rule") (C := RX3) (T := TX3) (N := 9) hx hb hts cl_3.2.1 tyX3 tyX3_ok nmX3 hown hK hP hD hS 0 rfl rfl 0 (by decide) (hts (.fieldLink RX3 31 "FlungFingers$Game" "law" "LFlungFingers$Rule;") iw_185) (fun _ h9 => h9) rfl hin rfl (by decide +kernel) rfl rfl (Nat.le_of_ble_eq_true rfl) di_X3_41 (fun H locs hP hD hS => ?_)
  have hP : va_P D vwCl [(h0, .inr (3, [.ref a1, .ref q8, .ref q16, .ref q24, .int 0, .int 0, .long 1, .long 1, .int 0])), (q8, .inl (cs 1, 1326, .inr (.inl (fun _ => 0)))), (q16, .inl (cs 0, 25, .inl (fun _ => 0))), (q24, .inl (cs 1, 25, .inr (.inl (fun _ => 0))))] H := hP
  have hD : va_D A [(h0, .inr (3, [.ref a1, .ref q8, .ref q16, .ref q24, .int 0, .int 0, .long 1, .long 1, .int 0])), (q8, .inl (cs 1, 1326, .inr (.inl (fun _ => 0)))), (q16, .inl (cs 0, 25, .inl (fun _ => 0))), (q24, .inl (cs 1, 25, .inr (.inl (fun _ => 0))))] := hD
  refine W.widen (k := 3) (n := 1376) (Nat.le_of_ble_eq_true rfl) (Nat.le_of_ble_eq_true rfl) ?_
  exact W.vret hx hb hr (fun t ht hW => ⟨⟨(fun j => ([q8, q16, q24] : List Nat).getD j 0), rfl, trivial, by rw [ht]; exact hP, hD⟩, hS.F ht⟩) hS.2.2 di_X3_44
theorem di_X5_0 : decode cX5_init 0 = .ok (.aload_n 0, 1) := by decide +kernel
theorem di_X5_1 : decode cX5_init 1 = .ok (.invokespecial 3, 3) := by decide +kernel
theorem di_X5_4 : decode cX5_init 4 = .ok (.aload_n 0, 1) := by decide +kernel
theorem di_X5_5 : decode cX5_init 5 = .ok (.bipush 13, 2) := by decide +kernel
theorem di_X5_7 : decode cX5_init 7 = .ok (.newarray .long, 2) := by decide +kernel
theorem di_X5_9 : decode cX5_init 9 = .ok (.putfield 9, 3) := by decide +kernel
theorem di_X5_12 : decode cX5_init 12 = .ok (.aload_n 0, 1) := by decide +kernel
theorem di_X5_13 : decode cX5_init 13 = .ok (.lconst 1, 1) := by decide +kernel
theorem di_X5_14 : decode cX5_init 14 = .ok (.putfield 15, 3) := by decide +kernel
theorem di_X5_17 : decode cX5_init 17 = .ok (.aload_n 0, 1) := by decide +kernel
theorem di_X5_18 : decode cX5_init 18 = .ok (.ldc2_w 19, 3) := by decide +kernel
theorem di_X5_21 : decode cX5_init 21 = .ok (.putfield 21, 3) := by decide +kernel
theorem di_X5_24 : decode cX5_init 24 = .ok (.aload_n 0, 1) := by decide +kernel
theorem di_X5_25 : decode cX5_init 25 = .ok (.lconst 1, 1) := by decide +kernel
theorem di_X5_26 : decode cX5_init 26 = .ok (.putfield 24, 3) := by decide +kernel
theorem di_X5_29 : decode cX5_init 29 = .ok (.aload_n 0, 1) := by decide +kernel
theorem di_X5_30 : decode cX5_init 30 = .ok (.aload_n 1, 1) := by decide +kernel
theorem di_X5_31 : decode cX5_init 31 = .ok (.putfield 27, 3) := by decide +kernel
theorem di_X5_34 : decode cX5_init 34 = .ok (.aload_n 0, 1) := by decide +kernel
theorem di_X5_35 : decode cX5_init 35 = .ok (.aload_n 2, 1) := by decide +kernel
theorem di_X5_36 : decode cX5_init 36 = .ok (.putfield 31, 3) := by decide +kernel
theorem di_X5_39 : decode cX5_init 39 = .ok (.return_, 1) := by decide +kernel
def MI_X5 : rxM := (yX5_init, cX5_init, 3, none)
theorem gI_X5 : rx_gM MI_X5 2 := ⟨rx_tw 269 (by decide +kernel) rfl, iw_104, ⟨by decide +kernel, by decide +kernel, by decide +kernel⟩, by decide⟩
set_option maxRecDepth 100000 in
set_option maxHeartbeats 4000000 in
theorem CI_X5 (l : Launch) (D : va_G) (cs : Nat → ClassId) (h0 a1 a2 : Nat) (sz : Nat) : Met l MI_X5.1 (rx_ws MI_X5) ({ frames := 2, cells := 1, slots := 13, locals := 128 }) (va_Pc [.ref h0, .ref a1, .ref a2] (fun U => U.heap.size = sz ∧ va_P D vwCl [(h0, .inr (5, [.null, .null, .null, .long 0, .long 0, .long 0, .long 0]))] U.heap ∧ va_K D vwCl (rx_ty cs) U ∧ va_D (fun _ => True) [(h0, .inr (5, [.null, .null, .null, .long 0, .long 0, .long 0, .long 0]))] ∧ rx_N U)) (va_Qv (fun _ : Nat → Nat => True) (fun u t => va_P D vwCl [(h0, .inr (5, [.ref a1, .ref a2, .ref (u 0), .long 1, .long 2, .long 0, .long 1])), ((u 0), .inl (cs 1, 13, .inr (.inl (fun _ => 0))))] t.heap ∧ va_D (va_A [(h0, .inr (5, [.null, .null, .null, .long 0, .long 0, .long 0, .long 0]))] sz) [(h0, .inr (5, [.ref a1, .ref a2, .ref (u 0), .long 1, .long 2, .long 0, .long 1])), ((u 0), .inl (cs 1, 13, .inr (.inl (fun _ => 0))))]) (va_A [(h0, .inr (5, [.null, .null, .null, .long 0, .long 0, .long 0, .long 0]))] sz)) 1 13 (va_A [(h0, .inr (5, [.null, .null, .null, .long 0, .long 0, .long 0, .long 0]))] sz) := by
  refine Met.ofW (cc := cX5_init) (maxL := 3) (ret := none) (by decide) rfl ?_
  intro p e s m args below meth c s₁ B hml hv
  obtain ⟨rfl, hsz, hP, hK, hD0, hN⟩ := hv
  have hx := B.exec
  have hb := B.bytes
  have hr := B.returns
  have hts0 := atoms_spec (ws := rx_ws MI_X5) B.pre
  have hts : ∀ w ∈ rx_tbl, w.before _ s = true := fun w hw => hts0 w (List.mem_cons_of_mem _ hw)
  have hown : s.vm.findClass RX5 = some m.cls := findClass_of_methodNamed B.named
  have hlocks := B.notSynchronized
  have hin : meth.name = "<init>" := (name_of_methodNamed B.named B.method).1
  subst hsz
  have hD := hD0.self (sz := s.heap.size)
  generalize hAe : va_A [(h0, .inr (5, [.null, .null, .null, .long 0, .long 0, .long 0, .long 0]))] s.heap.size = A at hD ⊢
  have hA : ∀ q : Nat, s.heap.size ≤ q → A q := fun q h => by rw [← hAe]; exact Or.inr h
  have hS : va_S A s.heap s.heap [] := va_S.rf
  have hl := lv_entry ([.ref h0, .ref a1, .ref a2]) (n := 3) (Nat.le_of_ble_eq_true rfl)
  rw [lg_entry_eq]
  generalize (lg_sl ([.ref h0, .ref a1, .ref a2]) ++ List.replicate (3 - (lg_sl ([.ref h0, .ref a1, .ref a2])).length) Slot.unset).toArray = ls at hl ⊢
  have hl : lv_has ls 3 [(0, .ref h0), (1, .ref a1), (2, .ref a2)] := hl
  refine lv_aload_n hx hb di_X5_0 rfl (lv_at hl 0 rfl) ?_
  refine W.objInit hx hb hown (hts _ iw_270) (hts _ iw_123) (hts _ iw_124) rfl (by rw [hml]; exact hl.1) rfl di_X5_1 (Nat.le_of_ble_eq_true rfl) (Nat.le_of_ble_eq_true rfl) ?_
  refine W.eq (g2 := F0 m 4 ls []) rfl ?_
  refine lv_aload_n hx hb di_X5_4 rfl (lv_at hl 0 rfl) ?_
  refine lv_bipush (v := 13) hx hb di_X5_5 (by decide) ?_
  refine va_newa (atype := .long) (a0 := (13, .inr (.inl (fun _ => 0)))) hx hb (hts _ iw_217) rfl hK hP hD hS hA (fun _ => rfl) (by decide) (by decide +kernel) (by decide +kernel) (Nat.le_of_ble_eq_true rfl) (Nat.le_of_ble_eq_true rfl) di_X5_7 (fun q7 cA H hK1 hP hD hS => ?_)
  obtain rfl := ac_long hK hK1
  have hP : va_P D vwCl [(h0, .inr (5, [.null, .null, .null, .long 0, .long 0, .long 0, .long 0])), (q7, .inl (cs 1, 13, .inr (.inl (fun _ => 0))))] H := hP
  have hD : va_D A [(h0, .inr (5, [.null, .null, .null, .long 0, .long 0, .long 0, .long 0])), (q7, .inl (cs 1, 13, .inr (.inl (fun _ => 0))))] := hD
  refine va_putF (D := D) (ci := 5) (v := .ref q7) (ty := .array .long) (C := RX5) (T := TX5) (N := 7) hx hb hts cl_5.2.1 tyX5 tyX5_ok nmX5 hown hK hP hD hS 0 rfl rfl 2 (by decide) (hts (.fieldLink RX5 9 "FlungFingers$Match" "row" "[J") iw_274) (fun _ h9 => h9) rfl hin rfl (by decide +kernel) rfl rfl (Nat.le_of_ble_eq_true rfl) di_X5_9 (fun H locs hP hD hS => ?_)
  have hP : va_P D vwCl [(h0, .inr (5, [.null, .null, .ref q7, .long 0, .long 0, .long 0, .long 0])), (q7, .inl (cs 1, 13, .inr (.inl (fun _ => 0))))] H := hP
  have hD : va_D A [(h0, .inr (5, [.null, .null, .ref q7, .long 0, .long 0, .long 0, .long 0])), (q7, .inl (cs 1, 13, .inr (.inl (fun _ => 0))))] := hD
  refine lv_aload_n hx hb di_X5_12 rfl (lv_at hl 0 rfl) ?_
  refine lv_lconst (v := 1) hx hb di_X5_13 (by decide) ?_
  refine va_put (D := D) (ci := 5) (v := .long 1) (ty := .long) (C := RX5) (T := TX5) (N := 7) hx hb hts cl_5.2.1 tyX5 tyX5_ok nmX5 hown hK hP hD hS 0 rfl rfl 3 (by decide) (hts (.fieldLink RX5 15 "FlungFingers$Match" "hit" "J") iw_275) (fun _ h9 => h9) rfl (by decide +kernel) rfl rfl (Nat.le_of_ble_eq_true rfl) di_X5_14 (fun H locs hP hD hS => ?_)
  have hP : va_P D vwCl [(h0, .inr (5, [.null, .null, .ref q7, .long 1, .long 0, .long 0, .long 0])), (q7, .inl (cs 1, 13, .inr (.inl (fun _ => 0))))] H := hP
  have hD : va_D A [(h0, .inr (5, [.null, .null, .ref q7, .long 1, .long 0, .long 0, .long 0])), (q7, .inl (cs 1, 13, .inr (.inl (fun _ => 0))))] := hD
  refine lv_aload_n hx hb di_X5_17 rfl (lv_at hl 0 rfl) ?_
  refine lv_ldc2 hx hb hown (hts _ iw_271) di_X5_18 ?_
  refine va_put (D := D) (ci := 5) (v := .long 2) (ty := .long) (C := RX5) (T := TX5) (N := 7) hx hb hts cl_5.2.1 tyX5 tyX5_ok nmX5 hown hK hP hD hS 0 rfl rfl 4 (by decide) (hts (.fieldLink RX5 21 "FlungFingers$Match" "base" "J") iw_276) (fun _ h9 => h9) rfl (by decide +kernel) rfl rfl (Nat.le_of_ble_eq_true rfl) di_X5_21 (fun H locs hP hD hS => ?_)
  have hP : va_P D vwCl [(h0, .inr (5, [.null, .null, .ref q7, .long 1, .long 2, .long 0, .long 0])), (q7, .inl (cs 1, 13, .inr (.inl (fun _ => 0))))] H := hP
  have hD : va_D A [(h0, .inr (5, [.null, .null, .ref q7, .long 1, .long 2, .long 0, .long 0])), (q7, .inl (cs 1, 13, .inr (.inl (fun _ => 0))))] := hD
  refine lv_aload_n hx hb di_X5_24 rfl (lv_at hl 0 rfl) ?_
  refine lv_lconst (v := 1) hx hb di_X5_25 (by decide) ?_
  refine va_put (D := D) (ci := 5) (v := .long 1) (ty := .long) (C := RX5) (T := TX5) (N := 7) hx hb hts cl_5.2.1 tyX5 tyX5_ok nmX5 hown hK hP hD hS 0 rfl rfl 6 (by decide) (hts (.fieldLink RX5 24 "FlungFingers$Match" "below" "J") iw_279) (fun _ h9 => h9) rfl (by decide +kernel) rfl rfl (Nat.le_of_ble_eq_true rfl) di_X5_26 (fun H locs hP hD hS => ?_)
  have hP : va_P D vwCl [(h0, .inr (5, [.null, .null, .ref q7, .long 1, .long 2, .long 0, .long 1])), (q7, .inl (cs 1, 13, .inr (.inl (fun _ => 0))))] H := hP
  have hD : va_D A [(h0, .inr (5, [.null, .null, .ref q7, .long 1, .long 2, .long 0, .long 1])), (q7, .inl (cs 1, 13, .inr (.inl (fun _ => 0))))] := hD
  refine lv_aload_n hx hb di_X5_29 rfl (lv_at hl 0 rfl) ?_
  refine lv_aload_n hx hb di_X5_30 rfl (lv_at hl 1 rfl) ?_
  refine va_putF (D := D) (ci := 5) (v := .ref a1) (ty := .object "FlungFingers$Rule") (C := RX5) (T := TX5) (N := 7) hx hb hts cl_5.2.1 tyX5 tyX5_ok nmX5 hown hK hP hD hS 0 rfl rfl 0 (by decide) (hts (.fieldLink RX5 27 "FlungFingers$Match" "law" "LFlungFingers$Rule;") iw_272) (fun _ h9 => h9) rfl hin rfl (by decide +kernel) rfl rfl (Nat.le_of_ble_eq_true rfl) di_X5_31 (fun H locs hP hD hS => ?_)
  have hP : va_P D vwCl [(h0, .inr (5, [.ref a1, .null, .ref q7, .long 1, .long 2, .long 0, .long 1])), (q7, .inl (cs 1, 13, .inr (.inl (fun _ => 0))))] H := hP
  have hD : va_D A [(h0, .inr (5, [.ref a1, .null, .ref q7, .long 1, .long 2, .long 0, .long 1])), (q7, .inl (cs 1, 13, .inr (.inl (fun _ => 0))))] := hD
  refine lv_aload_n hx hb di_X5_34 rfl (lv_at hl 0 rfl) ?_
  refine lv_aload_n hx hb di_X5_35 rfl (lv_at hl 2 rfl) ?_
  refine va_putF (D := D) (ci := 5) (v := .ref a2) (ty := .object "FlungFingers$Game") (C := RX5) (T := TX5) (N := 7) hx hb hts cl_5.2.1 tyX5 tyX5_ok nmX5 hown hK hP hD hS 0 rfl rfl 1 (by decide) (hts (.fieldLink RX5 31 "FlungFingers$Match" "game" "LFlungFingers$Game;") iw_273) (fun _ h9 => h9) rfl hin rfl (by decide +kernel) rfl rfl (Nat.le_of_ble_eq_true rfl) di_X5_36 (fun H locs hP hD hS => ?_)
  have hP : va_P D vwCl [(h0, .inr (5, [.ref a1, .ref a2, .ref q7, .long 1, .long 2, .long 0, .long 1])), (q7, .inl (cs 1, 13, .inr (.inl (fun _ => 0))))] H := hP
  have hD : va_D A [(h0, .inr (5, [.ref a1, .ref a2, .ref q7, .long 1, .long 2, .long 0, .long 1])), (q7, .inl (cs 1, 13, .inr (.inl (fun _ => 0))))] := hD
  refine W.widen (k := 1) (n := 13) (Nat.le_of_ble_eq_true rfl) (Nat.le_of_ble_eq_true rfl) ?_
  exact W.vret hx hb hr (fun t ht hW => ⟨⟨(fun j => ([q7] : List Nat).getD j 0), rfl, trivial, by rw [ht]; exact hP, hD⟩, hS.F ht⟩) hS.2.2 di_X5_39
theorem di_X9_0 : decode cX9_init 0 = .ok (.aload_n 0, 1) := by decide +kernel
theorem di_X9_1 : decode cX9_init 1 = .ok (.invokespecial 5, 3) := by decide +kernel
theorem di_X9_4 : decode cX9_init 4 = .ok (.aload_n 0, 1) := by decide +kernel
theorem di_X9_5 : decode cX9_init 5 = .ok (.bipush 80, 2) := by decide +kernel
theorem di_X9_7 : decode cX9_init 7 = .ok (.newarray .int, 2) := by decide +kernel
theorem di_X9_9 : decode cX9_init 9 = .ok (.putfield 11, 3) := by decide +kernel
theorem di_X9_12 : decode cX9_init 12 = .ok (.aload_n 0, 1) := by decide +kernel
theorem di_X9_13 : decode cX9_init 13 = .ok (.bipush 80, 2) := by decide +kernel
theorem di_X9_15 : decode cX9_init 15 = .ok (.newarray .boolean, 2) := by decide +kernel
theorem di_X9_17 : decode cX9_init 17 = .ok (.putfield 15, 3) := by decide +kernel
theorem di_X9_20 : decode cX9_init 20 = .ok (.aload_n 0, 1) := by decide +kernel
theorem di_X9_21 : decode cX9_init 21 = .ok (.sipush 1160, 3) := by decide +kernel
theorem di_X9_24 : decode cX9_init 24 = .ok (.newarray .int, 2) := by decide +kernel
theorem di_X9_26 : decode cX9_init 26 = .ok (.putfield 19, 3) := by decide +kernel
theorem di_X9_29 : decode cX9_init 29 = .ok (.aload_n 0, 1) := by decide +kernel
theorem di_X9_30 : decode cX9_init 30 = .ok (.sipush 841, 3) := by decide +kernel
theorem di_X9_33 : decode cX9_init 33 = .ok (.newarray .long, 2) := by decide +kernel
theorem di_X9_35 : decode cX9_init 35 = .ok (.putfield 22, 3) := by decide +kernel
theorem di_X9_38 : decode cX9_init 38 = .ok (.aload_n 0, 1) := by decide +kernel
theorem di_X9_39 : decode cX9_init 39 = .ok (.sipush 841, 3) := by decide +kernel
theorem di_X9_42 : decode cX9_init 42 = .ok (.newarray .long, 2) := by decide +kernel
theorem di_X9_44 : decode cX9_init 44 = .ok (.putfield 26, 3) := by decide +kernel
theorem di_X9_47 : decode cX9_init 47 = .ok (.aload_n 0, 1) := by decide +kernel
theorem di_X9_48 : decode cX9_init 48 = .ok (.iconst (-1), 1) := by decide +kernel
theorem di_X9_49 : decode cX9_init 49 = .ok (.putfield 29, 3) := by decide +kernel
theorem di_X9_52 : decode cX9_init 52 = .ok (.aload_n 0, 1) := by decide +kernel
theorem di_X9_53 : decode cX9_init 53 = .ok (.iconst 1, 1) := by decide +kernel
theorem di_X9_54 : decode cX9_init 54 = .ok (.putfield 33, 3) := by decide +kernel
theorem di_X9_57 : decode cX9_init 57 = .ok (.aload_n 0, 1) := by decide +kernel
theorem di_X9_58 : decode cX9_init 58 = .ok (.aload_n 1, 1) := by decide +kernel
theorem di_X9_59 : decode cX9_init 59 = .ok (.putfield 36, 3) := by decide +kernel
theorem di_X9_62 : decode cX9_init 62 = .ok (.return_, 1) := by decide +kernel
def MI_X9 : rxM := (yX9_init, cX9_init, 2, none)
theorem gI_X9 : rx_gM MI_X9 1 := ⟨rx_tw 414 (by decide +kernel) rfl, iw_108, ⟨by decide +kernel, by decide +kernel, by decide +kernel⟩, by decide⟩
set_option maxRecDepth 100000 in
set_option maxHeartbeats 4000000 in
theorem CI_X9 (l : Launch) (D : va_G) (cs : Nat → ClassId) (h0 a1 : Nat) (sz : Nat) : Met l MI_X9.1 (rx_ws MI_X9) ({ frames := 2, cells := 5, slots := 3002, locals := 128 }) (va_Pc [.ref h0, .ref a1] (fun U => U.heap.size = sz ∧ va_P D vwCl [(h0, .inr (9, [.null, .null, .null, .null, .null, .null, .int 0, .int 0, .int 0]))] U.heap ∧ va_K D vwCl (rx_ty cs) U ∧ va_D (fun _ => True) [(h0, .inr (9, [.null, .null, .null, .null, .null, .null, .int 0, .int 0, .int 0]))] ∧ rx_N U)) (va_Qv (fun _ : Nat → Nat => True) (fun u t => va_P D vwCl [(h0, .inr (9, [.ref a1, .ref (u 0), .ref (u 1), .ref (u 2), .ref (u 3), .ref (u 4), .int (-1), .int 1, .int 0])), ((u 0), .inl (cs 0, 80, .inl (fun _ => 0))), ((u 1), .inl (cs 2, 80, .inl (fun _ => 0))), ((u 2), .inl (cs 0, 1160, .inl (fun _ => 0))), ((u 3), .inl (cs 1, 841, .inr (.inl (fun _ => 0)))), ((u 4), .inl (cs 1, 841, .inr (.inl (fun _ => 0))))] t.heap ∧ va_D (va_A [(h0, .inr (9, [.null, .null, .null, .null, .null, .null, .int 0, .int 0, .int 0]))] sz) [(h0, .inr (9, [.ref a1, .ref (u 0), .ref (u 1), .ref (u 2), .ref (u 3), .ref (u 4), .int (-1), .int 1, .int 0])), ((u 0), .inl (cs 0, 80, .inl (fun _ => 0))), ((u 1), .inl (cs 2, 80, .inl (fun _ => 0))), ((u 2), .inl (cs 0, 1160, .inl (fun _ => 0))), ((u 3), .inl (cs 1, 841, .inr (.inl (fun _ => 0)))), ((u 4), .inl (cs 1, 841, .inr (.inl (fun _ => 0))))]) (va_A [(h0, .inr (9, [.null, .null, .null, .null, .null, .null, .int 0, .int 0, .int 0]))] sz)) 5 3002 (va_A [(h0, .inr (9, [.null, .null, .null, .null, .null, .null, .int 0, .int 0, .int 0]))] sz) := by
  refine Met.ofW (cc := cX9_init) (maxL := 2) (ret := none) (by decide) rfl ?_
  intro p e s m args below meth c s₁ B hml hv
  obtain ⟨rfl, hsz, hP, hK, hD0, hN⟩ := hv
  have hx := B.exec
  have hb := B.bytes
  have hr := B.returns
  have hts0 := atoms_spec (ws := rx_ws MI_X9) B.pre
  have hts : ∀ w ∈ rx_tbl, w.before _ s = true := fun w hw => hts0 w (List.mem_cons_of_mem _ hw)
  have hown : s.vm.findClass RX9 = some m.cls := findClass_of_methodNamed B.named
  have hlocks := B.notSynchronized
  have hin : meth.name = "<init>" := (name_of_methodNamed B.named B.method).1
  subst hsz
  have hD := hD0.self (sz := s.heap.size)
  generalize hAe : va_A [(h0, .inr (9, [.null, .null, .null, .null, .null, .null, .int 0, .int 0, .int 0]))] s.heap.size = A at hD ⊢
  have hA : ∀ q : Nat, s.heap.size ≤ q → A q := fun q h => by rw [← hAe]; exact Or.inr h
  have hS : va_S A s.heap s.heap [] := va_S.rf
  have hl := lv_entry ([.ref h0, .ref a1]) (n := 2) (Nat.le_of_ble_eq_true rfl)
  rw [lg_entry_eq]
  generalize (lg_sl ([.ref h0, .ref a1]) ++ List.replicate (2 - (lg_sl ([.ref h0, .ref a1])).length) Slot.unset).toArray = ls at hl ⊢
  have hl : lv_has ls 2 [(0, .ref h0), (1, .ref a1)] := hl
  refine lv_aload_n hx hb di_X9_0 rfl (lv_at hl 0 rfl) ?_
  refine W.objInit hx hb hown (hts _ iw_415) (hts _ iw_123) (hts _ iw_124) rfl (by rw [hml]; exact hl.1) rfl di_X9_1 (Nat.le_of_ble_eq_true rfl) (Nat.le_of_ble_eq_true rfl) ?_
  refine W.eq (g2 := F0 m 4 ls []) rfl ?_
  refine lv_aload_n hx hb di_X9_4 rfl (lv_at hl 0 rfl) ?_
  refine lv_bipush (v := 80) hx hb di_X9_5 (by decide) ?_
  refine va_newa (atype := .int) (a0 := (80, .inl (fun _ => 0))) hx hb (hts _ iw_178) rfl hK hP hD hS hA (fun _ => rfl) (by decide) (by decide +kernel) (by decide +kernel) (Nat.le_of_ble_eq_true rfl) (Nat.le_of_ble_eq_true rfl) di_X9_7 (fun q7 cA H hK1 hP hD hS => ?_)
  obtain rfl := ac_int hK hK1
  have hP : va_P D vwCl [(h0, .inr (9, [.null, .null, .null, .null, .null, .null, .int 0, .int 0, .int 0])), (q7, .inl (cs 0, 80, .inl (fun _ => 0)))] H := hP
  have hD : va_D A [(h0, .inr (9, [.null, .null, .null, .null, .null, .null, .int 0, .int 0, .int 0])), (q7, .inl (cs 0, 80, .inl (fun _ => 0)))] := hD
  refine va_putF (D := D) (ci := 9) (v := .ref q7) (ty := .array .int) (C := RX9) (T := TX9) (N := 9) hx hb hts cl_9.2.1 tyX9 tyX9_ok nmX9 hown hK hP hD hS 0 rfl rfl 1 (by decide) (hts (.fieldLink RX9 11 "FlungFingers$Slate" "noted" "[I") iw_417) (fun _ h9 => h9) rfl hin rfl (by decide +kernel) rfl rfl (Nat.le_of_ble_eq_true rfl) di_X9_9 (fun H locs hP hD hS => ?_)
  have hP : va_P D vwCl [(h0, .inr (9, [.null, .ref q7, .null, .null, .null, .null, .int 0, .int 0, .int 0])), (q7, .inl (cs 0, 80, .inl (fun _ => 0)))] H := hP
  have hD : va_D A [(h0, .inr (9, [.null, .ref q7, .null, .null, .null, .null, .int 0, .int 0, .int 0])), (q7, .inl (cs 0, 80, .inl (fun _ => 0)))] := hD
  refine lv_aload_n hx hb di_X9_12 rfl (lv_at hl 0 rfl) ?_
  refine lv_bipush (v := 80) hx hb di_X9_13 (by decide) ?_
  refine va_newa (atype := .boolean) (a0 := (80, .inl (fun _ => 0))) hx hb (hts _ iw_446) rfl hK hP hD hS hA (fun _ => rfl) (by decide) (by decide +kernel) (by decide +kernel) (Nat.le_of_ble_eq_true rfl) (Nat.le_of_ble_eq_true rfl) di_X9_15 (fun q15 cA H hK1 hP hD hS => ?_)
  obtain rfl := ac_boolean hK hK1
  have hP : va_P D vwCl [(h0, .inr (9, [.null, .ref q7, .null, .null, .null, .null, .int 0, .int 0, .int 0])), (q7, .inl (cs 0, 80, .inl (fun _ => 0))), (q15, .inl (cs 2, 80, .inl (fun _ => 0)))] H := hP
  have hD : va_D A [(h0, .inr (9, [.null, .ref q7, .null, .null, .null, .null, .int 0, .int 0, .int 0])), (q7, .inl (cs 0, 80, .inl (fun _ => 0))), (q15, .inl (cs 2, 80, .inl (fun _ => 0)))] := hD
  refine va_putF (D := D) (ci := 9) (v := .ref q15) (ty := .array .boolean) (C := RX9) (T := TX9) (N := 9) hx hb hts cl_9.2.1 tyX9 tyX9_ok nmX9 hown hK hP hD hS 0 rfl rfl 2 (by decide) (hts (.fieldLink RX9 15 "FlungFingers$Slate" "disputed" "[Z") iw_418) (fun _ h9 => h9) rfl hin rfl (by decide +kernel) rfl rfl (Nat.le_of_ble_eq_true rfl) di_X9_17 (fun H locs hP hD hS => ?_)
  have hP : va_P D vwCl [(h0, .inr (9, [.null, .ref q7, .ref q15, .null, .null, .null, .int 0, .int 0, .int 0])), (q7, .inl (cs 0, 80, .inl (fun _ => 0))), (q15, .inl (cs 2, 80, .inl (fun _ => 0)))] H := hP
  have hD : va_D A [(h0, .inr (9, [.null, .ref q7, .ref q15, .null, .null, .null, .int 0, .int 0, .int 0])), (q7, .inl (cs 0, 80, .inl (fun _ => 0))), (q15, .inl (cs 2, 80, .inl (fun _ => 0)))] := hD
  refine lv_aload_n hx hb di_X9_20 rfl (lv_at hl 0 rfl) ?_
  refine lv_sipush (v := 1160) hx hb di_X9_21 (by decide) ?_
  refine va_newa (atype := .int) (a0 := (1160, .inl (fun _ => 0))) hx hb (hts _ iw_178) rfl hK hP hD hS hA (fun _ => rfl) (by decide) (by decide +kernel) (by decide +kernel) (Nat.le_of_ble_eq_true rfl) (Nat.le_of_ble_eq_true rfl) di_X9_24 (fun q24 cA H hK1 hP hD hS => ?_)
  obtain rfl := ac_int hK hK1
  have hP : va_P D vwCl [(h0, .inr (9, [.null, .ref q7, .ref q15, .null, .null, .null, .int 0, .int 0, .int 0])), (q7, .inl (cs 0, 80, .inl (fun _ => 0))), (q15, .inl (cs 2, 80, .inl (fun _ => 0))), (q24, .inl (cs 0, 1160, .inl (fun _ => 0)))] H := hP
  have hD : va_D A [(h0, .inr (9, [.null, .ref q7, .ref q15, .null, .null, .null, .int 0, .int 0, .int 0])), (q7, .inl (cs 0, 80, .inl (fun _ => 0))), (q15, .inl (cs 2, 80, .inl (fun _ => 0))), (q24, .inl (cs 0, 1160, .inl (fun _ => 0)))] := hD
  refine va_putF (D := D) (ci := 9) (v := .ref q24) (ty := .array .int) (C := RX9) (T := TX9) (N := 9) hx hb hts cl_9.2.1 tyX9 tyX9_ok nmX9 hown hK hP hD hS 0 rfl rfl 3 (by decide) (hts (.fieldLink RX9 19 "FlungFingers$Slate" "reach" "[I") iw_419) (fun _ h9 => h9) rfl hin rfl (by decide +kernel) rfl rfl (Nat.le_of_ble_eq_true rfl) di_X9_26 (fun H locs hP hD hS => ?_)
  have hP : va_P D vwCl [(h0, .inr (9, [.null, .ref q7, .ref q15, .ref q24, .null, .null, .int 0, .int 0, .int 0])), (q7, .inl (cs 0, 80, .inl (fun _ => 0))), (q15, .inl (cs 2, 80, .inl (fun _ => 0))), (q24, .inl (cs 0, 1160, .inl (fun _ => 0)))] H := hP
  have hD : va_D A [(h0, .inr (9, [.null, .ref q7, .ref q15, .ref q24, .null, .null, .int 0, .int 0, .int 0])), (q7, .inl (cs 0, 80, .inl (fun _ => 0))), (q15, .inl (cs 2, 80, .inl (fun _ => 0))), (q24, .inl (cs 0, 1160, .inl (fun _ => 0)))] := hD
  refine lv_aload_n hx hb di_X9_29 rfl (lv_at hl 0 rfl) ?_
  refine lv_sipush (v := 841) hx hb di_X9_30 (by decide) ?_
  refine va_newa (atype := .long) (a0 := (841, .inr (.inl (fun _ => 0)))) hx hb (hts _ iw_217) rfl hK hP hD hS hA (fun _ => rfl) (by decide) (by decide +kernel) (by decide +kernel) (Nat.le_of_ble_eq_true rfl) (Nat.le_of_ble_eq_true rfl) di_X9_33 (fun q33 cA H hK1 hP hD hS => ?_)
  obtain rfl := ac_long hK hK1
  have hP : va_P D vwCl [(h0, .inr (9, [.null, .ref q7, .ref q15, .ref q24, .null, .null, .int 0, .int 0, .int 0])), (q7, .inl (cs 0, 80, .inl (fun _ => 0))), (q15, .inl (cs 2, 80, .inl (fun _ => 0))), (q24, .inl (cs 0, 1160, .inl (fun _ => 0))), (q33, .inl (cs 1, 841, .inr (.inl (fun _ => 0))))] H := hP
  have hD : va_D A [(h0, .inr (9, [.null, .ref q7, .ref q15, .ref q24, .null, .null, .int 0, .int 0, .int 0])), (q7, .inl (cs 0, 80, .inl (fun _ => 0))), (q15, .inl (cs 2, 80, .inl (fun _ => 0))), (q24, .inl (cs 0, 1160, .inl (fun _ => 0))), (q33, .inl (cs 1, 841, .inr (.inl (fun _ => 0))))] := hD
  refine va_put (D := D) (ci := 9) (v := .ref q33) (ty := .array .long) (C := RX9) (T := TX9) (N := 9) hx hb hts cl_9.2.1 tyX9 tyX9_ok nmX9 hown hK hP hD hS 0 rfl rfl 4 (by decide) (hts (.fieldLink RX9 22 "FlungFingers$Slate" "fillsNow" "[J") iw_420) (fun _ h9 => h9) rfl (by decide +kernel) rfl rfl (Nat.le_of_ble_eq_true rfl) di_X9_35 (fun H locs hP hD hS => ?_)
  have hP : va_P D vwCl [(h0, .inr (9, [.null, .ref q7, .ref q15, .ref q24, .ref q33, .null, .int 0, .int 0, .int 0])), (q7, .inl (cs 0, 80, .inl (fun _ => 0))), (q15, .inl (cs 2, 80, .inl (fun _ => 0))), (q24, .inl (cs 0, 1160, .inl (fun _ => 0))), (q33, .inl (cs 1, 841, .inr (.inl (fun _ => 0))))] H := hP
  have hD : va_D A [(h0, .inr (9, [.null, .ref q7, .ref q15, .ref q24, .ref q33, .null, .int 0, .int 0, .int 0])), (q7, .inl (cs 0, 80, .inl (fun _ => 0))), (q15, .inl (cs 2, 80, .inl (fun _ => 0))), (q24, .inl (cs 0, 1160, .inl (fun _ => 0))), (q33, .inl (cs 1, 841, .inr (.inl (fun _ => 0))))] := hD
  refine lv_aload_n hx hb di_X9_38 rfl (lv_at hl 0 rfl) ?_
  refine lv_sipush (v := 841) hx hb di_X9_39 (by decide) ?_
  refine va_newa (atype := .long) (a0 := (841, .inr (.inl (fun _ => 0)))) hx hb (hts _ iw_217) rfl hK hP hD hS hA (fun _ => rfl) (by decide) (by decide +kernel) (by decide +kernel) (Nat.le_of_ble_eq_true rfl) (Nat.le_of_ble_eq_true rfl) di_X9_42 (fun q42 cA H hK1 hP hD hS => ?_)
  obtain rfl := ac_long hK hK1
  have hP : va_P D vwCl [(h0, .inr (9, [.null, .ref q7, .ref q15, .ref q24, .ref q33, .null, .int 0, .int 0, .int 0])), (q7, .inl (cs 0, 80, .inl (fun _ => 0))), (q15, .inl (cs 2, 80, .inl (fun _ => 0))), (q24, .inl (cs 0, 1160, .inl (fun _ => 0))), (q33, .inl (cs 1, 841, .inr (.inl (fun _ => 0)))), (q42, .inl (cs 1, 841, .inr (.inl (fun _ => 0))))] H := hP
  have hD : va_D A [(h0, .inr (9, [.null, .ref q7, .ref q15, .ref q24, .ref q33, .null, .int 0, .int 0, .int 0])), (q7, .inl (cs 0, 80, .inl (fun _ => 0))), (q15, .inl (cs 2, 80, .inl (fun _ => 0))), (q24, .inl (cs 0, 1160, .inl (fun _ => 0))), (q33, .inl (cs 1, 841, .inr (.inl (fun _ => 0)))), (q42, .inl (cs 1, 841, .inr (.inl (fun _ => 0))))] := hD
  refine va_put (D := D) (ci := 9) (v := .ref q42) (ty := .array .long) (C := RX9) (T := TX9) (N := 9) hx hb hts cl_9.2.1 tyX9 tyX9_ok nmX9 hown hK hP hD hS 0 rfl rfl 5 (by decide) (hts (.fieldLink RX9 26 "FlungFingers$Slate" "fillsBehind" "[J") iw_421) (fun _ h9 => h9) rfl (by decide +kernel) rfl rfl (Nat.le_of_ble_eq_true rfl) di_X9_44 (fun H locs hP hD hS => ?_)
  have hP : va_P D vwCl [(h0, .inr (9, [.null, .ref q7, .ref q15, .ref q24, .ref q33, .ref q42, .int 0, .int 0, .int 0])), (q7, .inl (cs 0, 80, .inl (fun _ => 0))), (q15, .inl (cs 2, 80, .inl (fun _ => 0))), (q24, .inl (cs 0, 1160, .inl (fun _ => 0))), (q33, .inl (cs 1, 841, .inr (.inl (fun _ => 0)))), (q42, .inl (cs 1, 841, .inr (.inl (fun _ => 0))))] H := hP
  have hD : va_D A [(h0, .inr (9, [.null, .ref q7, .ref q15, .ref q24, .ref q33, .ref q42, .int 0, .int 0, .int 0])), (q7, .inl (cs 0, 80, .inl (fun _ => 0))), (q15, .inl (cs 2, 80, .inl (fun _ => 0))), (q24, .inl (cs 0, 1160, .inl (fun _ => 0))), (q33, .inl (cs 1, 841, .inr (.inl (fun _ => 0)))), (q42, .inl (cs 1, 841, .inr (.inl (fun _ => 0))))] := hD
  refine lv_aload_n hx hb di_X9_47 rfl (lv_at hl 0 rfl) ?_
  refine lv_iconst (v := -1) hx hb di_X9_48 (by decide) ?_
  refine va_put (D := D) (ci := 9) (v := .int (-1)) (ty := .int) (C := RX9) (T := TX9) (N := 9) hx hb hts cl_9.2.1 tyX9 tyX9_ok nmX9 hown hK hP hD hS 0 rfl rfl 6 (by decide) (hts (.fieldLink RX9 29 "FlungFingers$Slate" "filled" "I") iw_422) (fun _ h9 => h9) rfl (by decide +kernel) rfl rfl (Nat.le_of_ble_eq_true rfl) di_X9_49 (fun H locs hP hD hS => ?_)
  have hP : va_P D vwCl [(h0, .inr (9, [.null, .ref q7, .ref q15, .ref q24, .ref q33, .ref q42, .int (-1), .int 0, .int 0])), (q7, .inl (cs 0, 80, .inl (fun _ => 0))), (q15, .inl (cs 2, 80, .inl (fun _ => 0))), (q24, .inl (cs 0, 1160, .inl (fun _ => 0))), (q33, .inl (cs 1, 841, .inr (.inl (fun _ => 0)))), (q42, .inl (cs 1, 841, .inr (.inl (fun _ => 0))))] H := hP
  have hD : va_D A [(h0, .inr (9, [.null, .ref q7, .ref q15, .ref q24, .ref q33, .ref q42, .int (-1), .int 0, .int 0])), (q7, .inl (cs 0, 80, .inl (fun _ => 0))), (q15, .inl (cs 2, 80, .inl (fun _ => 0))), (q24, .inl (cs 0, 1160, .inl (fun _ => 0))), (q33, .inl (cs 1, 841, .inr (.inl (fun _ => 0)))), (q42, .inl (cs 1, 841, .inr (.inl (fun _ => 0))))] := hD
  refine lv_aload_n hx hb di_X9_52 rfl (lv_at hl 0 rfl) ?_
  refine lv_iconst (v := 1) hx hb di_X9_53 (by decide) ?_
  refine va_put (D := D) (ci := 9) (v := .int 1) (ty := .int) (C := RX9) (T := TX9) (N := 9) hx hb hts cl_9.2.1 tyX9 tyX9_ok nmX9 hown hK hP hD hS 0 rfl rfl 7 (by decide) (hts (.fieldLink RX9 33 "FlungFingers$Slate" "goal" "I") iw_423) (fun _ h9 => h9) rfl (by decide +kernel) rfl rfl (Nat.le_of_ble_eq_true rfl) di_X9_54 (fun H locs hP hD hS => ?_)
  have hP : va_P D vwCl [(h0, .inr (9, [.null, .ref q7, .ref q15, .ref q24, .ref q33, .ref q42, .int (-1), .int 1, .int 0])), (q7, .inl (cs 0, 80, .inl (fun _ => 0))), (q15, .inl (cs 2, 80, .inl (fun _ => 0))), (q24, .inl (cs 0, 1160, .inl (fun _ => 0))), (q33, .inl (cs 1, 841, .inr (.inl (fun _ => 0)))), (q42, .inl (cs 1, 841, .inr (.inl (fun _ => 0))))] H := hP
  have hD : va_D A [(h0, .inr (9, [.null, .ref q7, .ref q15, .ref q24, .ref q33, .ref q42, .int (-1), .int 1, .int 0])), (q7, .inl (cs 0, 80, .inl (fun _ => 0))), (q15, .inl (cs 2, 80, .inl (fun _ => 0))), (q24, .inl (cs 0, 1160, .inl (fun _ => 0))), (q33, .inl (cs 1, 841, .inr (.inl (fun _ => 0)))), (q42, .inl (cs 1, 841, .inr (.inl (fun _ => 0))))] := hD
  refine lv_aload_n hx hb di_X9_57 rfl (lv_at hl 0 rfl) ?_
  refine lv_aload_n hx hb di_X9_58 rfl (lv_at hl 1 rfl) ?_
  refine va_putF (D := D) (ci := 9) (v := .ref a1) (ty := .object "FlungFingers$Rule") (C := RX9) (T := TX9) (N := 9) hx hb hts cl_9.2.1 tyX9 tyX9_ok nmX9 hown hK hP hD hS 0 rfl rfl 0 (by decide) (hts (.fieldLink RX9 36 "FlungFingers$Slate" "law" "LFlungFingers$Rule;") iw_416) (fun _ h9 => h9) rfl hin rfl (by decide +kernel) rfl rfl (Nat.le_of_ble_eq_true rfl) di_X9_59 (fun H locs hP hD hS => ?_)
  have hP : va_P D vwCl [(h0, .inr (9, [.ref a1, .ref q7, .ref q15, .ref q24, .ref q33, .ref q42, .int (-1), .int 1, .int 0])), (q7, .inl (cs 0, 80, .inl (fun _ => 0))), (q15, .inl (cs 2, 80, .inl (fun _ => 0))), (q24, .inl (cs 0, 1160, .inl (fun _ => 0))), (q33, .inl (cs 1, 841, .inr (.inl (fun _ => 0)))), (q42, .inl (cs 1, 841, .inr (.inl (fun _ => 0))))] H := hP
  have hD : va_D A [(h0, .inr (9, [.ref a1, .ref q7, .ref q15, .ref q24, .ref q33, .ref q42, .int (-1), .int 1, .int 0])), (q7, .inl (cs 0, 80, .inl (fun _ => 0))), (q15, .inl (cs 2, 80, .inl (fun _ => 0))), (q24, .inl (cs 0, 1160, .inl (fun _ => 0))), (q33, .inl (cs 1, 841, .inr (.inl (fun _ => 0)))), (q42, .inl (cs 1, 841, .inr (.inl (fun _ => 0))))] := hD
  refine W.widen (k := 5) (n := 3002) (Nat.le_of_ble_eq_true rfl) (Nat.le_of_ble_eq_true rfl) ?_
  exact W.vret hx hb hr (fun t ht hW => ⟨⟨(fun j => ([q7, q15, q24, q33, q42] : List Nat).getD j 0), rfl, trivial, by rw [ht]; exact hP, hD⟩, hS.F ht⟩) hS.2.2 di_X9_62
theorem di_X0_0 : decode cX0_init 0 = .ok (.aload_n 0, 1) := by decide +kernel
theorem di_X0_1 : decode cX0_init 1 = .ok (.invokespecial 3, 3) := by decide +kernel
theorem di_X0_4 : decode cX0_init 4 = .ok (.aload_n 0, 1) := by decide +kernel
theorem di_X0_5 : decode cX0_init 5 = .ok (.bipush 120, 2) := by decide +kernel
theorem di_X0_7 : decode cX0_init 7 = .ok (.newarray .int, 2) := by decide +kernel
theorem di_X0_9 : decode cX0_init 9 = .ok (.putfield 11, 3) := by decide +kernel
theorem di_X0_12 : decode cX0_init 12 = .ok (.aload_n 0, 1) := by decide +kernel
theorem di_X0_13 : decode cX0_init 13 = .ok (.bipush 60, 2) := by decide +kernel
theorem di_X0_15 : decode cX0_init 15 = .ok (.newarray .int, 2) := by decide +kernel
theorem di_X0_17 : decode cX0_init 17 = .ok (.putfield 15, 3) := by decide +kernel
theorem di_X0_20 : decode cX0_init 20 = .ok (.aload_n 0, 1) := by decide +kernel
theorem di_X0_21 : decode cX0_init 21 = .ok (.bipush 100, 2) := by decide +kernel
theorem di_X0_23 : decode cX0_init 23 = .ok (.putfield 18, 3) := by decide +kernel
theorem di_X0_26 : decode cX0_init 26 = .ok (.aload_n 0, 1) := by decide +kernel
theorem di_X0_27 : decode cX0_init 27 = .ok (.lconst 1, 1) := by decide +kernel
theorem di_X0_28 : decode cX0_init 28 = .ok (.putfield 22, 3) := by decide +kernel
theorem di_X0_31 : decode cX0_init 31 = .ok (.return_, 1) := by decide +kernel
def MI_X0 : rxM := (yX0_init, cX0_init, 1, none)
theorem gI_X0 : rx_gM MI_X0 0 := ⟨rx_tw 451 (by decide +kernel) rfl, iw_109, ⟨by decide +kernel, by decide +kernel, by decide +kernel⟩, by decide⟩
set_option maxRecDepth 100000 in
set_option maxHeartbeats 4000000 in
theorem CI_X0 (l : Launch) (D : va_G) (cs : Nat → ClassId) (h0 : Nat) (sz : Nat) : Met l MI_X0.1 (rx_ws MI_X0) ({ frames := 2, cells := 2, slots := 180, locals := 128 }) (va_Pc [.ref h0] (fun U => U.heap.size = sz ∧ va_P D vwCl [(h0, .inr (0, [.null, .null, .int 0, .int 0, .long 0, .long 0]))] U.heap ∧ va_K D vwCl (rx_ty cs) U ∧ va_D (fun _ => True) [(h0, .inr (0, [.null, .null, .int 0, .int 0, .long 0, .long 0]))] ∧ rx_N U)) (va_Qv (fun _ : Nat → Nat => True) (fun u t => va_P D vwCl [(h0, .inr (0, [.ref (u 0), .ref (u 1), .int 0, .int 100, .long 0, .long 1])), ((u 0), .inl (cs 0, 120, .inl (fun _ => 0))), ((u 1), .inl (cs 0, 60, .inl (fun _ => 0)))] t.heap ∧ va_D (va_A [(h0, .inr (0, [.null, .null, .int 0, .int 0, .long 0, .long 0]))] sz) [(h0, .inr (0, [.ref (u 0), .ref (u 1), .int 0, .int 100, .long 0, .long 1])), ((u 0), .inl (cs 0, 120, .inl (fun _ => 0))), ((u 1), .inl (cs 0, 60, .inl (fun _ => 0)))]) (va_A [(h0, .inr (0, [.null, .null, .int 0, .int 0, .long 0, .long 0]))] sz)) 2 180 (va_A [(h0, .inr (0, [.null, .null, .int 0, .int 0, .long 0, .long 0]))] sz) := by
  refine Met.ofW (cc := cX0_init) (maxL := 1) (ret := none) (by decide) rfl ?_
  intro p e s m args below meth c s₁ B hml hv
  obtain ⟨rfl, hsz, hP, hK, hD0, hN⟩ := hv
  have hx := B.exec
  have hb := B.bytes
  have hr := B.returns
  have hts0 := atoms_spec (ws := rx_ws MI_X0) B.pre
  have hts : ∀ w ∈ rx_tbl, w.before _ s = true := fun w hw => hts0 w (List.mem_cons_of_mem _ hw)
  have hown : s.vm.findClass RX0 = some m.cls := findClass_of_methodNamed B.named
  have hlocks := B.notSynchronized
  have hin : meth.name = "<init>" := (name_of_methodNamed B.named B.method).1
  subst hsz
  have hD := hD0.self (sz := s.heap.size)
  generalize hAe : va_A [(h0, .inr (0, [.null, .null, .int 0, .int 0, .long 0, .long 0]))] s.heap.size = A at hD ⊢
  have hA : ∀ q : Nat, s.heap.size ≤ q → A q := fun q h => by rw [← hAe]; exact Or.inr h
  have hS : va_S A s.heap s.heap [] := va_S.rf
  have hl := lv_entry ([.ref h0]) (n := 1) (Nat.le_of_ble_eq_true rfl)
  rw [lg_entry_eq]
  generalize (lg_sl ([.ref h0]) ++ List.replicate (1 - (lg_sl ([.ref h0])).length) Slot.unset).toArray = ls at hl ⊢
  have hl : lv_has ls 1 [(0, .ref h0)] := hl
  refine lv_aload_n hx hb di_X0_0 rfl (lv_at hl 0 rfl) ?_
  refine W.objInit hx hb hown (hts _ iw_452) (hts _ iw_123) (hts _ iw_124) rfl (by rw [hml]; exact hl.1) rfl di_X0_1 (Nat.le_of_ble_eq_true rfl) (Nat.le_of_ble_eq_true rfl) ?_
  refine W.eq (g2 := F0 m 4 ls []) rfl ?_
  refine lv_aload_n hx hb di_X0_4 rfl (lv_at hl 0 rfl) ?_
  refine lv_bipush (v := 120) hx hb di_X0_5 (by decide) ?_
  refine va_newa (atype := .int) (a0 := (120, .inl (fun _ => 0))) hx hb (hts _ iw_178) rfl hK hP hD hS hA (fun _ => rfl) (by decide) (by decide +kernel) (by decide +kernel) (Nat.le_of_ble_eq_true rfl) (Nat.le_of_ble_eq_true rfl) di_X0_7 (fun q7 cA H hK1 hP hD hS => ?_)
  obtain rfl := ac_int hK hK1
  have hP : va_P D vwCl [(h0, .inr (0, [.null, .null, .int 0, .int 0, .long 0, .long 0])), (q7, .inl (cs 0, 120, .inl (fun _ => 0)))] H := hP
  have hD : va_D A [(h0, .inr (0, [.null, .null, .int 0, .int 0, .long 0, .long 0])), (q7, .inl (cs 0, 120, .inl (fun _ => 0)))] := hD
  refine va_putF (D := D) (ci := 0) (v := .ref q7) (ty := .array .int) (C := RX0) (T := TX0) (N := 6) hx hb hts cl_0.2.1 tyX0 tyX0_ok nmX0 hown hK hP hD hS 0 rfl rfl 0 (by decide) (hts (.fieldLink RX0 11 "FlungFingers$Beats" "at" "[I") iw_453) (fun _ h9 => h9) rfl hin rfl (by decide +kernel) rfl rfl (Nat.le_of_ble_eq_true rfl) di_X0_9 (fun H locs hP hD hS => ?_)
  have hP : va_P D vwCl [(h0, .inr (0, [.ref q7, .null, .int 0, .int 0, .long 0, .long 0])), (q7, .inl (cs 0, 120, .inl (fun _ => 0)))] H := hP
  have hD : va_D A [(h0, .inr (0, [.ref q7, .null, .int 0, .int 0, .long 0, .long 0])), (q7, .inl (cs 0, 120, .inl (fun _ => 0)))] := hD
  refine lv_aload_n hx hb di_X0_12 rfl (lv_at hl 0 rfl) ?_
  refine lv_bipush (v := 60) hx hb di_X0_13 (by decide) ?_
  refine va_newa (atype := .int) (a0 := (60, .inl (fun _ => 0))) hx hb (hts _ iw_178) rfl hK hP hD hS hA (fun _ => rfl) (by decide) (by decide +kernel) (by decide +kernel) (Nat.le_of_ble_eq_true rfl) (Nat.le_of_ble_eq_true rfl) di_X0_15 (fun q15 cA H hK1 hP hD hS => ?_)
  obtain rfl := ac_int hK hK1
  have hP : va_P D vwCl [(h0, .inr (0, [.ref q7, .null, .int 0, .int 0, .long 0, .long 0])), (q7, .inl (cs 0, 120, .inl (fun _ => 0))), (q15, .inl (cs 0, 60, .inl (fun _ => 0)))] H := hP
  have hD : va_D A [(h0, .inr (0, [.ref q7, .null, .int 0, .int 0, .long 0, .long 0])), (q7, .inl (cs 0, 120, .inl (fun _ => 0))), (q15, .inl (cs 0, 60, .inl (fun _ => 0)))] := hD
  refine va_putF (D := D) (ci := 0) (v := .ref q15) (ty := .array .int) (C := RX0) (T := TX0) (N := 6) hx hb hts cl_0.2.1 tyX0 tyX0_ok nmX0 hown hK hP hD hS 0 rfl rfl 1 (by decide) (hts (.fieldLink RX0 15 "FlungFingers$Beats" "scorer" "[I") iw_454) (fun _ h9 => h9) rfl hin rfl (by decide +kernel) rfl rfl (Nat.le_of_ble_eq_true rfl) di_X0_17 (fun H locs hP hD hS => ?_)
  have hP : va_P D vwCl [(h0, .inr (0, [.ref q7, .ref q15, .int 0, .int 0, .long 0, .long 0])), (q7, .inl (cs 0, 120, .inl (fun _ => 0))), (q15, .inl (cs 0, 60, .inl (fun _ => 0)))] H := hP
  have hD : va_D A [(h0, .inr (0, [.ref q7, .ref q15, .int 0, .int 0, .long 0, .long 0])), (q7, .inl (cs 0, 120, .inl (fun _ => 0))), (q15, .inl (cs 0, 60, .inl (fun _ => 0)))] := hD
  refine lv_aload_n hx hb di_X0_20 rfl (lv_at hl 0 rfl) ?_
  refine lv_bipush (v := 100) hx hb di_X0_21 (by decide) ?_
  refine va_put (D := D) (ci := 0) (v := .int 100) (ty := .int) (C := RX0) (T := TX0) (N := 6) hx hb hts cl_0.2.1 tyX0 tyX0_ok nmX0 hown hK hP hD hS 0 rfl rfl 3 (by decide) (hts (.fieldLink RX0 18 "FlungFingers$Beats" "slack" "I") iw_457) (fun _ h9 => h9) rfl (by decide +kernel) rfl rfl (Nat.le_of_ble_eq_true rfl) di_X0_23 (fun H locs hP hD hS => ?_)
  have hP : va_P D vwCl [(h0, .inr (0, [.ref q7, .ref q15, .int 0, .int 100, .long 0, .long 0])), (q7, .inl (cs 0, 120, .inl (fun _ => 0))), (q15, .inl (cs 0, 60, .inl (fun _ => 0)))] H := hP
  have hD : va_D A [(h0, .inr (0, [.ref q7, .ref q15, .int 0, .int 100, .long 0, .long 0])), (q7, .inl (cs 0, 120, .inl (fun _ => 0))), (q15, .inl (cs 0, 60, .inl (fun _ => 0)))] := hD
  refine lv_aload_n hx hb di_X0_26 rfl (lv_at hl 0 rfl) ?_
  refine lv_lconst (v := 1) hx hb di_X0_27 (by decide) ?_
  refine va_put (D := D) (ci := 0) (v := .long 1) (ty := .long) (C := RX0) (T := TX0) (N := 6) hx hb hts cl_0.2.1 tyX0 tyX0_ok nmX0 hown hK hP hD hS 0 rfl rfl 5 (by decide) (hts (.fieldLink RX0 22 "FlungFingers$Beats" "below" "J") iw_461) (fun _ h9 => h9) rfl (by decide +kernel) rfl rfl (Nat.le_of_ble_eq_true rfl) di_X0_28 (fun H locs hP hD hS => ?_)
  have hP : va_P D vwCl [(h0, .inr (0, [.ref q7, .ref q15, .int 0, .int 100, .long 0, .long 1])), (q7, .inl (cs 0, 120, .inl (fun _ => 0))), (q15, .inl (cs 0, 60, .inl (fun _ => 0)))] H := hP
  have hD : va_D A [(h0, .inr (0, [.ref q7, .ref q15, .int 0, .int 100, .long 0, .long 1])), (q7, .inl (cs 0, 120, .inl (fun _ => 0))), (q15, .inl (cs 0, 60, .inl (fun _ => 0)))] := hD
  refine W.widen (k := 2) (n := 180) (Nat.le_of_ble_eq_true rfl) (Nat.le_of_ble_eq_true rfl) ?_
  exact W.vret hx hb hr (fun t ht hW => ⟨⟨(fun j => ([q7, q15] : List Nat).getD j 0), rfl, trivial, by rw [ht]; exact hP, hD⟩, hS.F ht⟩) hS.2.2 di_X0_31
theorem di_X4_0 : decode cX4_init 0 = .ok (.aload_n 0, 1) := by decide +kernel
theorem di_X4_1 : decode cX4_init 1 = .ok (.invokespecial 3, 3) := by decide +kernel
theorem di_X4_4 : decode cX4_init 4 = .ok (.aload_n 0, 1) := by decide +kernel
theorem di_X4_5 : decode cX4_init 5 = .ok (.bipush 6, 2) := by decide +kernel
theorem di_X4_7 : decode cX4_init 7 = .ok (.newarray .int, 2) := by decide +kernel
theorem di_X4_9 : decode cX4_init 9 = .ok (.putfield 11, 3) := by decide +kernel
theorem di_X4_12 : decode cX4_init 12 = .ok (.aload_n 0, 1) := by decide +kernel
theorem di_X4_13 : decode cX4_init 13 = .ok (.bipush 6, 2) := by decide +kernel
theorem di_X4_15 : decode cX4_init 15 = .ok (.newarray .int, 2) := by decide +kernel
theorem di_X4_17 : decode cX4_init 17 = .ok (.putfield 15, 3) := by decide +kernel
theorem di_X4_20 : decode cX4_init 20 = .ok (.aload_n 0, 1) := by decide +kernel
theorem di_X4_21 : decode cX4_init 21 = .ok (.bipush 9, 2) := by decide +kernel
theorem di_X4_23 : decode cX4_init 23 = .ok (.newarray .int, 2) := by decide +kernel
theorem di_X4_25 : decode cX4_init 25 = .ok (.putfield 18, 3) := by decide +kernel
theorem di_X4_28 : decode cX4_init 28 = .ok (.aload_n 0, 1) := by decide +kernel
theorem di_X4_29 : decode cX4_init 29 = .ok (.bipush 9, 2) := by decide +kernel
theorem di_X4_31 : decode cX4_init 31 = .ok (.newarray .int, 2) := by decide +kernel
theorem di_X4_33 : decode cX4_init 33 = .ok (.putfield 21, 3) := by decide +kernel
theorem di_X4_36 : decode cX4_init 36 = .ok (.aload_n 0, 1) := by decide +kernel
theorem di_X4_37 : decode cX4_init 37 = .ok (.bipush 9, 2) := by decide +kernel
theorem di_X4_39 : decode cX4_init 39 = .ok (.newarray .int, 2) := by decide +kernel
theorem di_X4_41 : decode cX4_init 41 = .ok (.putfield 24, 3) := by decide +kernel
theorem di_X4_44 : decode cX4_init 44 = .ok (.aload_n 0, 1) := by decide +kernel
theorem di_X4_45 : decode cX4_init 45 = .ok (.bipush 9, 2) := by decide +kernel
theorem di_X4_47 : decode cX4_init 47 = .ok (.newarray .int, 2) := by decide +kernel
theorem di_X4_49 : decode cX4_init 49 = .ok (.putfield 27, 3) := by decide +kernel
theorem di_X4_52 : decode cX4_init 52 = .ok (.return_, 1) := by decide +kernel
def MI_X4 : rxM := (yX4_init, cX4_init, 1, none)
theorem gI_X4 : rx_gM MI_X4 0 := ⟨rx_tw 480 (by decide +kernel) rfl, iw_110, ⟨by decide +kernel, by decide +kernel, by decide +kernel⟩, by decide⟩
set_option maxRecDepth 100000 in
set_option maxHeartbeats 4000000 in
theorem CI_X4 (l : Launch) (D : va_G) (cs : Nat → ClassId) (h0 : Nat) (sz : Nat) : Met l MI_X4.1 (rx_ws MI_X4) ({ frames := 2, cells := 6, slots := 48, locals := 128 }) (va_Pc [.ref h0] (fun U => U.heap.size = sz ∧ va_P D vwCl [(h0, .inr (4, [.null, .null, .null, .null, .null, .null, .int 0, .int 0, .int 0]))] U.heap ∧ va_K D vwCl (rx_ty cs) U ∧ va_D (fun _ => True) [(h0, .inr (4, [.null, .null, .null, .null, .null, .null, .int 0, .int 0, .int 0]))] ∧ rx_N U)) (va_Qv (fun _ : Nat → Nat => True) (fun u t => va_P D vwCl [(h0, .inr (4, [.ref (u 0), .ref (u 1), .ref (u 2), .ref (u 3), .ref (u 4), .ref (u 5), .int 0, .int 0, .int 0])), ((u 0), .inl (cs 0, 6, .inl (fun _ => 0))), ((u 1), .inl (cs 0, 6, .inl (fun _ => 0))), ((u 2), .inl (cs 0, 9, .inl (fun _ => 0))), ((u 3), .inl (cs 0, 9, .inl (fun _ => 0))), ((u 4), .inl (cs 0, 9, .inl (fun _ => 0))), ((u 5), .inl (cs 0, 9, .inl (fun _ => 0)))] t.heap ∧ va_D (va_A [(h0, .inr (4, [.null, .null, .null, .null, .null, .null, .int 0, .int 0, .int 0]))] sz) [(h0, .inr (4, [.ref (u 0), .ref (u 1), .ref (u 2), .ref (u 3), .ref (u 4), .ref (u 5), .int 0, .int 0, .int 0])), ((u 0), .inl (cs 0, 6, .inl (fun _ => 0))), ((u 1), .inl (cs 0, 6, .inl (fun _ => 0))), ((u 2), .inl (cs 0, 9, .inl (fun _ => 0))), ((u 3), .inl (cs 0, 9, .inl (fun _ => 0))), ((u 4), .inl (cs 0, 9, .inl (fun _ => 0))), ((u 5), .inl (cs 0, 9, .inl (fun _ => 0)))]) (va_A [(h0, .inr (4, [.null, .null, .null, .null, .null, .null, .int 0, .int 0, .int 0]))] sz)) 6 48 (va_A [(h0, .inr (4, [.null, .null, .null, .null, .null, .null, .int 0, .int 0, .int 0]))] sz) := by
  refine Met.ofW (cc := cX4_init) (maxL := 1) (ret := none) (by decide) rfl ?_
  intro p e s m args below meth c s₁ B hml hv
  obtain ⟨rfl, hsz, hP, hK, hD0, hN⟩ := hv
  have hx := B.exec
  have hb := B.bytes
  have hr := B.returns
  have hts0 := atoms_spec (ws := rx_ws MI_X4) B.pre
  have hts : ∀ w ∈ rx_tbl, w.before _ s = true := fun w hw => hts0 w (List.mem_cons_of_mem _ hw)
  have hown : s.vm.findClass RX4 = some m.cls := findClass_of_methodNamed B.named
  have hlocks := B.notSynchronized
  have hin : meth.name = "<init>" := (name_of_methodNamed B.named B.method).1
  subst hsz
  have hD := hD0.self (sz := s.heap.size)
  generalize hAe : va_A [(h0, .inr (4, [.null, .null, .null, .null, .null, .null, .int 0, .int 0, .int 0]))] s.heap.size = A at hD ⊢
  have hA : ∀ q : Nat, s.heap.size ≤ q → A q := fun q h => by rw [← hAe]; exact Or.inr h
  have hS : va_S A s.heap s.heap [] := va_S.rf
  have hl := lv_entry ([.ref h0]) (n := 1) (Nat.le_of_ble_eq_true rfl)
  rw [lg_entry_eq]
  generalize (lg_sl ([.ref h0]) ++ List.replicate (1 - (lg_sl ([.ref h0])).length) Slot.unset).toArray = ls at hl ⊢
  have hl : lv_has ls 1 [(0, .ref h0)] := hl
  refine lv_aload_n hx hb di_X4_0 rfl (lv_at hl 0 rfl) ?_
  refine W.objInit hx hb hown (hts _ iw_481) (hts _ iw_123) (hts _ iw_124) rfl (by rw [hml]; exact hl.1) rfl di_X4_1 (Nat.le_of_ble_eq_true rfl) (Nat.le_of_ble_eq_true rfl) ?_
  refine W.eq (g2 := F0 m 4 ls []) rfl ?_
  refine lv_aload_n hx hb di_X4_4 rfl (lv_at hl 0 rfl) ?_
  refine lv_bipush (v := 6) hx hb di_X4_5 (by decide) ?_
  refine va_newa (atype := .int) (a0 := (6, .inl (fun _ => 0))) hx hb (hts _ iw_178) rfl hK hP hD hS hA (fun _ => rfl) (by decide) (by decide +kernel) (by decide +kernel) (Nat.le_of_ble_eq_true rfl) (Nat.le_of_ble_eq_true rfl) di_X4_7 (fun q7 cA H hK1 hP hD hS => ?_)
  obtain rfl := ac_int hK hK1
  have hP : va_P D vwCl [(h0, .inr (4, [.null, .null, .null, .null, .null, .null, .int 0, .int 0, .int 0])), (q7, .inl (cs 0, 6, .inl (fun _ => 0)))] H := hP
  have hD : va_D A [(h0, .inr (4, [.null, .null, .null, .null, .null, .null, .int 0, .int 0, .int 0])), (q7, .inl (cs 0, 6, .inl (fun _ => 0)))] := hD
  refine va_putF (D := D) (ci := 4) (v := .ref q7) (ty := .array .int) (C := RX4) (T := TX4) (N := 9) hx hb hts cl_4.2.1 tyX4 tyX4_ok nmX4 hown hK hP hD hS 0 rfl rfl 0 (by decide) (hts (.fieldLink RX4 11 "FlungFingers$League" "points" "[I") iw_482) (fun _ h9 => h9) rfl hin rfl (by decide +kernel) rfl rfl (Nat.le_of_ble_eq_true rfl) di_X4_9 (fun H locs hP hD hS => ?_)
  have hP : va_P D vwCl [(h0, .inr (4, [.ref q7, .null, .null, .null, .null, .null, .int 0, .int 0, .int 0])), (q7, .inl (cs 0, 6, .inl (fun _ => 0)))] H := hP
  have hD : va_D A [(h0, .inr (4, [.ref q7, .null, .null, .null, .null, .null, .int 0, .int 0, .int 0])), (q7, .inl (cs 0, 6, .inl (fun _ => 0)))] := hD
  refine lv_aload_n hx hb di_X4_12 rfl (lv_at hl 0 rfl) ?_
  refine lv_bipush (v := 6) hx hb di_X4_13 (by decide) ?_
  refine va_newa (atype := .int) (a0 := (6, .inl (fun _ => 0))) hx hb (hts _ iw_178) rfl hK hP hD hS hA (fun _ => rfl) (by decide) (by decide +kernel) (by decide +kernel) (Nat.le_of_ble_eq_true rfl) (Nat.le_of_ble_eq_true rfl) di_X4_15 (fun q15 cA H hK1 hP hD hS => ?_)
  obtain rfl := ac_int hK hK1
  have hP : va_P D vwCl [(h0, .inr (4, [.ref q7, .null, .null, .null, .null, .null, .int 0, .int 0, .int 0])), (q7, .inl (cs 0, 6, .inl (fun _ => 0))), (q15, .inl (cs 0, 6, .inl (fun _ => 0)))] H := hP
  have hD : va_D A [(h0, .inr (4, [.ref q7, .null, .null, .null, .null, .null, .int 0, .int 0, .int 0])), (q7, .inl (cs 0, 6, .inl (fun _ => 0))), (q15, .inl (cs 0, 6, .inl (fun _ => 0)))] := hD
  refine va_putF (D := D) (ci := 4) (v := .ref q15) (ty := .array .int) (C := RX4) (T := TX4) (N := 9) hx hb hts cl_4.2.1 tyX4 tyX4_ok nmX4 hown hK hP hD hS 0 rfl rfl 1 (by decide) (hts (.fieldLink RX4 15 "FlungFingers$League" "after" "[I") iw_484) (fun _ h9 => h9) rfl hin rfl (by decide +kernel) rfl rfl (Nat.le_of_ble_eq_true rfl) di_X4_17 (fun H locs hP hD hS => ?_)
  have hP : va_P D vwCl [(h0, .inr (4, [.ref q7, .ref q15, .null, .null, .null, .null, .int 0, .int 0, .int 0])), (q7, .inl (cs 0, 6, .inl (fun _ => 0))), (q15, .inl (cs 0, 6, .inl (fun _ => 0)))] H := hP
  have hD : va_D A [(h0, .inr (4, [.ref q7, .ref q15, .null, .null, .null, .null, .int 0, .int 0, .int 0])), (q7, .inl (cs 0, 6, .inl (fun _ => 0))), (q15, .inl (cs 0, 6, .inl (fun _ => 0)))] := hD
  refine lv_aload_n hx hb di_X4_20 rfl (lv_at hl 0 rfl) ?_
  refine lv_bipush (v := 9) hx hb di_X4_21 (by decide) ?_
  refine va_newa (atype := .int) (a0 := (9, .inl (fun _ => 0))) hx hb (hts _ iw_178) rfl hK hP hD hS hA (fun _ => rfl) (by decide) (by decide +kernel) (by decide +kernel) (Nat.le_of_ble_eq_true rfl) (Nat.le_of_ble_eq_true rfl) di_X4_23 (fun q23 cA H hK1 hP hD hS => ?_)
  obtain rfl := ac_int hK hK1
  have hP : va_P D vwCl [(h0, .inr (4, [.ref q7, .ref q15, .null, .null, .null, .null, .int 0, .int 0, .int 0])), (q7, .inl (cs 0, 6, .inl (fun _ => 0))), (q15, .inl (cs 0, 6, .inl (fun _ => 0))), (q23, .inl (cs 0, 9, .inl (fun _ => 0)))] H := hP
  have hD : va_D A [(h0, .inr (4, [.ref q7, .ref q15, .null, .null, .null, .null, .int 0, .int 0, .int 0])), (q7, .inl (cs 0, 6, .inl (fun _ => 0))), (q15, .inl (cs 0, 6, .inl (fun _ => 0))), (q23, .inl (cs 0, 9, .inl (fun _ => 0)))] := hD
  refine va_putF (D := D) (ci := 4) (v := .ref q23) (ty := .array .int) (C := RX4) (T := TX4) (N := 9) hx hb hts cl_4.2.1 tyX4 tyX4_ok nmX4 hown hK hP hD hS 0 rfl rfl 2 (by decide) (hts (.fieldLink RX4 18 "FlungFingers$League" "one" "[I") iw_485) (fun _ h9 => h9) rfl hin rfl (by decide +kernel) rfl rfl (Nat.le_of_ble_eq_true rfl) di_X4_25 (fun H locs hP hD hS => ?_)
  have hP : va_P D vwCl [(h0, .inr (4, [.ref q7, .ref q15, .ref q23, .null, .null, .null, .int 0, .int 0, .int 0])), (q7, .inl (cs 0, 6, .inl (fun _ => 0))), (q15, .inl (cs 0, 6, .inl (fun _ => 0))), (q23, .inl (cs 0, 9, .inl (fun _ => 0)))] H := hP
  have hD : va_D A [(h0, .inr (4, [.ref q7, .ref q15, .ref q23, .null, .null, .null, .int 0, .int 0, .int 0])), (q7, .inl (cs 0, 6, .inl (fun _ => 0))), (q15, .inl (cs 0, 6, .inl (fun _ => 0))), (q23, .inl (cs 0, 9, .inl (fun _ => 0)))] := hD
  refine lv_aload_n hx hb di_X4_28 rfl (lv_at hl 0 rfl) ?_
  refine lv_bipush (v := 9) hx hb di_X4_29 (by decide) ?_
  refine va_newa (atype := .int) (a0 := (9, .inl (fun _ => 0))) hx hb (hts _ iw_178) rfl hK hP hD hS hA (fun _ => rfl) (by decide) (by decide +kernel) (by decide +kernel) (Nat.le_of_ble_eq_true rfl) (Nat.le_of_ble_eq_true rfl) di_X4_31 (fun q31 cA H hK1 hP hD hS => ?_)
  obtain rfl := ac_int hK hK1
  have hP : va_P D vwCl [(h0, .inr (4, [.ref q7, .ref q15, .ref q23, .null, .null, .null, .int 0, .int 0, .int 0])), (q7, .inl (cs 0, 6, .inl (fun _ => 0))), (q15, .inl (cs 0, 6, .inl (fun _ => 0))), (q23, .inl (cs 0, 9, .inl (fun _ => 0))), (q31, .inl (cs 0, 9, .inl (fun _ => 0)))] H := hP
  have hD : va_D A [(h0, .inr (4, [.ref q7, .ref q15, .ref q23, .null, .null, .null, .int 0, .int 0, .int 0])), (q7, .inl (cs 0, 6, .inl (fun _ => 0))), (q15, .inl (cs 0, 6, .inl (fun _ => 0))), (q23, .inl (cs 0, 9, .inl (fun _ => 0))), (q31, .inl (cs 0, 9, .inl (fun _ => 0)))] := hD
  refine va_putF (D := D) (ci := 4) (v := .ref q31) (ty := .array .int) (C := RX4) (T := TX4) (N := 9) hx hb hts cl_4.2.1 tyX4 tyX4_ok nmX4 hown hK hP hD hS 0 rfl rfl 3 (by decide) (hts (.fieldLink RX4 21 "FlungFingers$League" "other" "[I") iw_486) (fun _ h9 => h9) rfl hin rfl (by decide +kernel) rfl rfl (Nat.le_of_ble_eq_true rfl) di_X4_33 (fun H locs hP hD hS => ?_)
  have hP : va_P D vwCl [(h0, .inr (4, [.ref q7, .ref q15, .ref q23, .ref q31, .null, .null, .int 0, .int 0, .int 0])), (q7, .inl (cs 0, 6, .inl (fun _ => 0))), (q15, .inl (cs 0, 6, .inl (fun _ => 0))), (q23, .inl (cs 0, 9, .inl (fun _ => 0))), (q31, .inl (cs 0, 9, .inl (fun _ => 0)))] H := hP
  have hD : va_D A [(h0, .inr (4, [.ref q7, .ref q15, .ref q23, .ref q31, .null, .null, .int 0, .int 0, .int 0])), (q7, .inl (cs 0, 6, .inl (fun _ => 0))), (q15, .inl (cs 0, 6, .inl (fun _ => 0))), (q23, .inl (cs 0, 9, .inl (fun _ => 0))), (q31, .inl (cs 0, 9, .inl (fun _ => 0)))] := hD
  refine lv_aload_n hx hb di_X4_36 rfl (lv_at hl 0 rfl) ?_
  refine lv_bipush (v := 9) hx hb di_X4_37 (by decide) ?_
  refine va_newa (atype := .int) (a0 := (9, .inl (fun _ => 0))) hx hb (hts _ iw_178) rfl hK hP hD hS hA (fun _ => rfl) (by decide) (by decide +kernel) (by decide +kernel) (Nat.le_of_ble_eq_true rfl) (Nat.le_of_ble_eq_true rfl) di_X4_39 (fun q39 cA H hK1 hP hD hS => ?_)
  obtain rfl := ac_int hK hK1
  have hP : va_P D vwCl [(h0, .inr (4, [.ref q7, .ref q15, .ref q23, .ref q31, .null, .null, .int 0, .int 0, .int 0])), (q7, .inl (cs 0, 6, .inl (fun _ => 0))), (q15, .inl (cs 0, 6, .inl (fun _ => 0))), (q23, .inl (cs 0, 9, .inl (fun _ => 0))), (q31, .inl (cs 0, 9, .inl (fun _ => 0))), (q39, .inl (cs 0, 9, .inl (fun _ => 0)))] H := hP
  have hD : va_D A [(h0, .inr (4, [.ref q7, .ref q15, .ref q23, .ref q31, .null, .null, .int 0, .int 0, .int 0])), (q7, .inl (cs 0, 6, .inl (fun _ => 0))), (q15, .inl (cs 0, 6, .inl (fun _ => 0))), (q23, .inl (cs 0, 9, .inl (fun _ => 0))), (q31, .inl (cs 0, 9, .inl (fun _ => 0))), (q39, .inl (cs 0, 9, .inl (fun _ => 0)))] := hD
  refine va_putF (D := D) (ci := 4) (v := .ref q39) (ty := .array .int) (C := RX4) (T := TX4) (N := 9) hx hb hts cl_4.2.1 tyX4 tyX4_ok nmX4 hown hK hP hD hS 0 rfl rfl 4 (by decide) (hts (.fieldLink RX4 24 "FlungFingers$League" "trial" "[I") iw_487) (fun _ h9 => h9) rfl hin rfl (by decide +kernel) rfl rfl (Nat.le_of_ble_eq_true rfl) di_X4_41 (fun H locs hP hD hS => ?_)
  have hP : va_P D vwCl [(h0, .inr (4, [.ref q7, .ref q15, .ref q23, .ref q31, .ref q39, .null, .int 0, .int 0, .int 0])), (q7, .inl (cs 0, 6, .inl (fun _ => 0))), (q15, .inl (cs 0, 6, .inl (fun _ => 0))), (q23, .inl (cs 0, 9, .inl (fun _ => 0))), (q31, .inl (cs 0, 9, .inl (fun _ => 0))), (q39, .inl (cs 0, 9, .inl (fun _ => 0)))] H := hP
  have hD : va_D A [(h0, .inr (4, [.ref q7, .ref q15, .ref q23, .ref q31, .ref q39, .null, .int 0, .int 0, .int 0])), (q7, .inl (cs 0, 6, .inl (fun _ => 0))), (q15, .inl (cs 0, 6, .inl (fun _ => 0))), (q23, .inl (cs 0, 9, .inl (fun _ => 0))), (q31, .inl (cs 0, 9, .inl (fun _ => 0))), (q39, .inl (cs 0, 9, .inl (fun _ => 0)))] := hD
  refine lv_aload_n hx hb di_X4_44 rfl (lv_at hl 0 rfl) ?_
  refine lv_bipush (v := 9) hx hb di_X4_45 (by decide) ?_
  refine va_newa (atype := .int) (a0 := (9, .inl (fun _ => 0))) hx hb (hts _ iw_178) rfl hK hP hD hS hA (fun _ => rfl) (by decide) (by decide +kernel) (by decide +kernel) (Nat.le_of_ble_eq_true rfl) (Nat.le_of_ble_eq_true rfl) di_X4_47 (fun q47 cA H hK1 hP hD hS => ?_)
  obtain rfl := ac_int hK hK1
  have hP : va_P D vwCl [(h0, .inr (4, [.ref q7, .ref q15, .ref q23, .ref q31, .ref q39, .null, .int 0, .int 0, .int 0])), (q7, .inl (cs 0, 6, .inl (fun _ => 0))), (q15, .inl (cs 0, 6, .inl (fun _ => 0))), (q23, .inl (cs 0, 9, .inl (fun _ => 0))), (q31, .inl (cs 0, 9, .inl (fun _ => 0))), (q39, .inl (cs 0, 9, .inl (fun _ => 0))), (q47, .inl (cs 0, 9, .inl (fun _ => 0)))] H := hP
  have hD : va_D A [(h0, .inr (4, [.ref q7, .ref q15, .ref q23, .ref q31, .ref q39, .null, .int 0, .int 0, .int 0])), (q7, .inl (cs 0, 6, .inl (fun _ => 0))), (q15, .inl (cs 0, 6, .inl (fun _ => 0))), (q23, .inl (cs 0, 9, .inl (fun _ => 0))), (q31, .inl (cs 0, 9, .inl (fun _ => 0))), (q39, .inl (cs 0, 9, .inl (fun _ => 0))), (q47, .inl (cs 0, 9, .inl (fun _ => 0)))] := hD
  refine va_putF (D := D) (ci := 4) (v := .ref q47) (ty := .array .int) (C := RX4) (T := TX4) (N := 9) hx hb hts cl_4.2.1 tyX4 tyX4_ok nmX4 hown hK hP hD hS 0 rfl rfl 5 (by decide) (hts (.fieldLink RX4 27 "FlungFingers$League" "results" "[I") iw_488) (fun _ h9 => h9) rfl hin rfl (by decide +kernel) rfl rfl (Nat.le_of_ble_eq_true rfl) di_X4_49 (fun H locs hP hD hS => ?_)
  have hP : va_P D vwCl [(h0, .inr (4, [.ref q7, .ref q15, .ref q23, .ref q31, .ref q39, .ref q47, .int 0, .int 0, .int 0])), (q7, .inl (cs 0, 6, .inl (fun _ => 0))), (q15, .inl (cs 0, 6, .inl (fun _ => 0))), (q23, .inl (cs 0, 9, .inl (fun _ => 0))), (q31, .inl (cs 0, 9, .inl (fun _ => 0))), (q39, .inl (cs 0, 9, .inl (fun _ => 0))), (q47, .inl (cs 0, 9, .inl (fun _ => 0)))] H := hP
  have hD : va_D A [(h0, .inr (4, [.ref q7, .ref q15, .ref q23, .ref q31, .ref q39, .ref q47, .int 0, .int 0, .int 0])), (q7, .inl (cs 0, 6, .inl (fun _ => 0))), (q15, .inl (cs 0, 6, .inl (fun _ => 0))), (q23, .inl (cs 0, 9, .inl (fun _ => 0))), (q31, .inl (cs 0, 9, .inl (fun _ => 0))), (q39, .inl (cs 0, 9, .inl (fun _ => 0))), (q47, .inl (cs 0, 9, .inl (fun _ => 0)))] := hD
  refine W.widen (k := 6) (n := 48) (Nat.le_of_ble_eq_true rfl) (Nat.le_of_ble_eq_true rfl) ?_
  exact W.vret hx hb hr (fun t ht hW => ⟨⟨(fun j => ([q7, q15, q23, q31, q39, q47] : List Nat).getD j 0), rfl, trivial, by rw [ht]; exact hP, hD⟩, hS.F ht⟩) hS.2.2 di_X4_52
theorem di_X10_0 : decode cX10_init 0 = .ok (.aload_n 0, 1) := by decide +kernel
theorem di_X10_1 : decode cX10_init 1 = .ok (.invokespecial 1, 3) := by decide +kernel
theorem di_X10_4 : decode cX10_init 4 = .ok (.aload_n 0, 1) := by decide +kernel
theorem di_X10_5 : decode cX10_init 5 = .ok (.new 7, 3) := by decide +kernel
theorem di_X10_8 : decode cX10_init 8 = .ok (.dup, 1) := by decide +kernel
theorem di_X10_9 : decode cX10_init 9 = .ok (.invokespecial 9, 3) := by decide +kernel
theorem di_X10_12 : decode cX10_init 12 = .ok (.putfield 10, 3) := by decide +kernel
theorem di_X10_15 : decode cX10_init 15 = .ok (.aload_n 0, 1) := by decide +kernel
theorem di_X10_16 : decode cX10_init 16 = .ok (.new 7, 3) := by decide +kernel
theorem di_X10_19 : decode cX10_init 19 = .ok (.dup, 1) := by decide +kernel
theorem di_X10_20 : decode cX10_init 20 = .ok (.invokespecial 9, 3) := by decide +kernel
theorem di_X10_23 : decode cX10_init 23 = .ok (.putfield 16, 3) := by decide +kernel
theorem di_X10_26 : decode cX10_init 26 = .ok (.aload_n 0, 1) := by decide +kernel
theorem di_X10_27 : decode cX10_init 27 = .ok (.new 7, 3) := by decide +kernel
theorem di_X10_30 : decode cX10_init 30 = .ok (.dup, 1) := by decide +kernel
theorem di_X10_31 : decode cX10_init 31 = .ok (.invokespecial 9, 3) := by decide +kernel
theorem di_X10_34 : decode cX10_init 34 = .ok (.putfield 19, 3) := by decide +kernel
theorem di_X10_37 : decode cX10_init 37 = .ok (.aload_n 0, 1) := by decide +kernel
theorem di_X10_38 : decode cX10_init 38 = .ok (.new 7, 3) := by decide +kernel
theorem di_X10_41 : decode cX10_init 41 = .ok (.dup, 1) := by decide +kernel
theorem di_X10_42 : decode cX10_init 42 = .ok (.invokespecial 9, 3) := by decide +kernel
theorem di_X10_45 : decode cX10_init 45 = .ok (.putfield 22, 3) := by decide +kernel
theorem di_X10_48 : decode cX10_init 48 = .ok (.return_, 1) := by decide +kernel
def MI_X10 : rxM := (yX10_init, cX10_init, 1, none)
theorem gI_X10 : rx_gM MI_X10 0 := ⟨rx_tw 306 (by decide +kernel) rfl, iw_106, ⟨by decide +kernel, by decide +kernel, by decide +kernel⟩, by decide⟩
set_option maxRecDepth 100000 in
set_option maxHeartbeats 4000000 in
theorem CI_X10 (l : Launch) (D : va_G) (cs : Nat → ClassId) (h0 : Nat) (sz : Nat) : Met l MI_X10.1 (rx_ws MI_X10) ({ frames := 3, cells := 8, slots := 72, locals := 192 }) (va_Pc [.ref h0] (fun U => U.heap.size = sz ∧ va_P D vwCl [(h0, .inr (10, [.null, .null, .null, .null]))] U.heap ∧ va_K D vwCl (rx_ty cs) U ∧ va_D (fun _ => True) [(h0, .inr (10, [.null, .null, .null, .null]))] ∧ rx_N U)) (va_Qv (fun _ : Nat → Nat => True) (fun u t => va_P D vwCl [(h0, .inr (10, [.ref (u 0), .ref (u 2), .ref (u 4), .ref (u 6)])), ((u 0), .inr (1, [.ref (u 1), .int 0])), ((u 1), .inl (cs 0, 16, .inl (fun _ => 0))), ((u 2), .inr (1, [.ref (u 3), .int 0])), ((u 3), .inl (cs 0, 16, .inl (fun _ => 0))), ((u 4), .inr (1, [.ref (u 5), .int 0])), ((u 5), .inl (cs 0, 16, .inl (fun _ => 0))), ((u 6), .inr (1, [.ref (u 7), .int 0])), ((u 7), .inl (cs 0, 16, .inl (fun _ => 0)))] t.heap ∧ va_D (va_A [(h0, .inr (10, [.null, .null, .null, .null]))] sz) [(h0, .inr (10, [.ref (u 0), .ref (u 2), .ref (u 4), .ref (u 6)])), ((u 0), .inr (1, [.ref (u 1), .int 0])), ((u 1), .inl (cs 0, 16, .inl (fun _ => 0))), ((u 2), .inr (1, [.ref (u 3), .int 0])), ((u 3), .inl (cs 0, 16, .inl (fun _ => 0))), ((u 4), .inr (1, [.ref (u 5), .int 0])), ((u 5), .inl (cs 0, 16, .inl (fun _ => 0))), ((u 6), .inr (1, [.ref (u 7), .int 0])), ((u 7), .inl (cs 0, 16, .inl (fun _ => 0)))]) (va_A [(h0, .inr (10, [.null, .null, .null, .null]))] sz)) 8 72 (va_A [(h0, .inr (10, [.null, .null, .null, .null]))] sz) := by
  refine Met.ofW (cc := cX10_init) (maxL := 1) (ret := none) (by decide) rfl ?_
  intro p e s m args below meth c s₁ B hml hv
  obtain ⟨rfl, hsz, hP, hK, hD0, hN⟩ := hv
  have hx := B.exec
  have hb := B.bytes
  have hr := B.returns
  have hts0 := atoms_spec (ws := rx_ws MI_X10) B.pre
  have hts : ∀ w ∈ rx_tbl, w.before _ s = true := fun w hw => hts0 w (List.mem_cons_of_mem _ hw)
  have hown : s.vm.findClass RX10 = some m.cls := findClass_of_methodNamed B.named
  have hlocks := B.notSynchronized
  have hin : meth.name = "<init>" := (name_of_methodNamed B.named B.method).1
  subst hsz
  have hD := hD0.self (sz := s.heap.size)
  generalize hAe : va_A [(h0, .inr (10, [.null, .null, .null, .null]))] s.heap.size = A at hD ⊢
  have hA : ∀ q : Nat, s.heap.size ≤ q → A q := fun q h => by rw [← hAe]; exact Or.inr h
  have hS : va_S A s.heap s.heap [] := va_S.rf
  have hl := lv_entry ([.ref h0]) (n := 1) (Nat.le_of_ble_eq_true rfl)
  rw [lg_entry_eq]
  generalize (lg_sl ([.ref h0]) ++ List.replicate (1 - (lg_sl ([.ref h0])).length) Slot.unset).toArray = ls at hl ⊢
  have hl : lv_has ls 1 [(0, .ref h0)] := hl
  refine lv_aload_n hx hb di_X10_0 rfl (lv_at hl 0 rfl) ?_
  refine W.objInit hx hb hown (hts _ iw_307) (hts _ iw_123) (hts _ iw_124) rfl (by rw [hml]; exact hl.1) rfl di_X10_1 (Nat.le_of_ble_eq_true rfl) (Nat.le_of_ble_eq_true rfl) ?_
  refine W.eq (g2 := F0 m 4 ls []) rfl ?_
  refine lv_aload_n hx hb di_X10_4 rfl (lv_at hl 0 rfl) ?_
  refine va_new (ci := 1) (fs := [.null, .int 0]) (C := RX1) (T := TX1) (N := 2) hx hb hts cl_1.2.1 tyX1 tyX1_ok hown (hts (.classLink RX10 7 RX1) iw_308) (hts (.instantiable RX1 2) iw_225) (hts (.initialized RX1) iw_103) hK hP hD hS hA rfl (fun j hj => by rcases (show j = 0 ∨ j = 1 by omega) with rfl | rfl <;> rfl) (Nat.le_of_ble_eq_true rfl) (Nat.le_of_ble_eq_true rfl) di_X10_5 (fun q5 H hP hD hS => ?_)
  have hP : va_P D vwCl [(h0, .inr (10, [.null, .null, .null, .null])), (q5, .inr (1, [.null, .int 0]))] H := hP
  have hD : va_D A [(h0, .inr (10, [.null, .null, .null, .null])), (q5, .inr (1, [.null, .int 0]))] := hD
  refine lv_dup hx hb di_X10_8 rfl ?_
  have hPc := hP.sub (ws' := [(q5, .inr (1, [.null, .int 0]))]) [1] rfl
  have hDc := hD.sub (ws' := [(q5, .inr (1, [.null, .int 0]))]) [1] (by decide) rfl
  have hFc := va_free (wc := [(q5, .inr (1, [.null, .int 0]))]) hD hS hA [1] rfl
  refine va_callv (va_runIN (Ts := rx_tbl) (As := []) (rest := [.ref q5, .ref h0]) ⟨hx, hb, hml, hown, hts⟩ (CI_X1 l D cs q5  H.size) ⟨va_cnB 0 hts (rx_gin gI_X1) rfl rfl rfl (hN _ in_309) (hts _ iw_103) ⟨by decide +kernel, by decide +kernel, by decide +kernel⟩ ⟨Nat.le_of_ble_eq_true rfl, Nat.le_of_ble_eq_true rfl⟩, rfl, (hts _ iw_227)⟩ ⟨rx_Pc_blind, fun U hU hW => ⟨rfl, by rw [hU], by rw [hU]; exact hPc, va_K.moved hW.alike hK, hDc.weaken (fun _ _ _ _ => trivial), rx_N_warm hW hN⟩⟩ rfl rfl hl.1 rfl (lv_room (Nat.le_of_ble_eq_true rfl)) di_X10_9 ⟨Nat.le_of_ble_eq_true rfl, Nat.le_of_ble_eq_true rfl⟩) hS (fun q _ h => hFc q h) hFc (fun u9 t H1 locs ht hvm hw hB hz1 hk1 hS => ?_)
  obtain ⟨hP1, hD1⟩ := hB
  rw [ht] at hP1
  obtain ⟨hP, hD⟩ := va_join (wr := [(h0, .inr (10, [.null, .null, .null, .null]))]) (w1 := [(q5, .inr (1, [.ref (u9 0), .int 0])), ((u9 0), .inl (cs 0, 16, .inl (fun _ => 0)))]) hP hD [1] [0] rfl rfl (by decide) (by decide) hk1 hFc hP1 hD1
  generalize H1 = H at hP hS ⊢
  have hP : va_P D vwCl [(h0, .inr (10, [.null, .null, .null, .null])), (q5, .inr (1, [.ref (u9 0), .int 0])), ((u9 0), .inl (cs 0, 16, .inl (fun _ => 0)))] H := hP
  have hD : va_D A [(h0, .inr (10, [.null, .null, .null, .null])), (q5, .inr (1, [.ref (u9 0), .int 0])), ((u9 0), .inl (cs 0, 16, .inl (fun _ => 0)))] := hD
  refine va_putF (D := D) (ci := 10) (v := .ref q5) (ty := .object "FlungFingers$Big") (C := RX10) (T := TX10) (N := 4) hx hb hts cl_10.2.1 tyX10 tyX10_ok nmX10 hown hK hP hD hS 0 rfl rfl 0 (by decide) (hts (.fieldLink RX10 10 "FlungFingers$Tail" "sum" "LFlungFingers$Big;") iw_310) (fun _ h9 => h9) rfl hin rfl (by decide +kernel) rfl rfl (Nat.le_of_ble_eq_true rfl) di_X10_12 (fun H locs hP hD hS => ?_)
  have hP : va_P D vwCl [(h0, .inr (10, [.ref q5, .null, .null, .null])), (q5, .inr (1, [.ref (u9 0), .int 0])), ((u9 0), .inl (cs 0, 16, .inl (fun _ => 0)))] H := hP
  have hD : va_D A [(h0, .inr (10, [.ref q5, .null, .null, .null])), (q5, .inr (1, [.ref (u9 0), .int 0])), ((u9 0), .inl (cs 0, 16, .inl (fun _ => 0)))] := hD
  refine lv_aload_n hx hb di_X10_15 rfl (lv_at hl 0 rfl) ?_
  refine va_new (ci := 1) (fs := [.null, .int 0]) (C := RX1) (T := TX1) (N := 2) hx hb hts cl_1.2.1 tyX1 tyX1_ok hown (hts (.classLink RX10 7 RX1) iw_308) (hts (.instantiable RX1 2) iw_225) (hts (.initialized RX1) iw_103) hK hP hD hS hA rfl (fun j hj => by rcases (show j = 0 ∨ j = 1 by omega) with rfl | rfl <;> rfl) (Nat.le_of_ble_eq_true rfl) (Nat.le_of_ble_eq_true rfl) di_X10_16 (fun q16 H hP hD hS => ?_)
  have hP : va_P D vwCl [(h0, .inr (10, [.ref q5, .null, .null, .null])), (q5, .inr (1, [.ref (u9 0), .int 0])), ((u9 0), .inl (cs 0, 16, .inl (fun _ => 0))), (q16, .inr (1, [.null, .int 0]))] H := hP
  have hD : va_D A [(h0, .inr (10, [.ref q5, .null, .null, .null])), (q5, .inr (1, [.ref (u9 0), .int 0])), ((u9 0), .inl (cs 0, 16, .inl (fun _ => 0))), (q16, .inr (1, [.null, .int 0]))] := hD
  refine lv_dup hx hb di_X10_19 rfl ?_
  have hPc := hP.sub (ws' := [(q16, .inr (1, [.null, .int 0]))]) [3] rfl
  have hDc := hD.sub (ws' := [(q16, .inr (1, [.null, .int 0]))]) [3] (by decide) rfl
  have hFc := va_free (wc := [(q16, .inr (1, [.null, .int 0]))]) hD hS hA [3] rfl
  refine va_callv (va_runIN (Ts := rx_tbl) (As := []) (rest := [.ref q16, .ref h0]) ⟨hx, hb, hml, hown, hts⟩ (CI_X1 l D cs q16  H.size) ⟨va_cnB 0 hts (rx_gin gI_X1) rfl rfl rfl (hN _ in_309) (hts _ iw_103) ⟨by decide +kernel, by decide +kernel, by decide +kernel⟩ ⟨Nat.le_of_ble_eq_true rfl, Nat.le_of_ble_eq_true rfl⟩, rfl, (hts _ iw_227)⟩ ⟨rx_Pc_blind, fun U hU hW => ⟨rfl, by rw [hU], by rw [hU]; exact hPc, va_K.moved hW.alike hK, hDc.weaken (fun _ _ _ _ => trivial), rx_N_warm hW hN⟩⟩ rfl rfl hl.1 rfl (lv_room (Nat.le_of_ble_eq_true rfl)) di_X10_20 ⟨Nat.le_of_ble_eq_true rfl, Nat.le_of_ble_eq_true rfl⟩) hS (fun q _ h => hFc q h) hFc (fun u20 t H1 locs ht hvm hw hB hz1 hk1 hS => ?_)
  obtain ⟨hP1, hD1⟩ := hB
  rw [ht] at hP1
  obtain ⟨hP, hD⟩ := va_join (wr := [(h0, .inr (10, [.ref q5, .null, .null, .null])), (q5, .inr (1, [.ref (u9 0), .int 0])), ((u9 0), .inl (cs 0, 16, .inl (fun _ => 0)))]) (w1 := [(q16, .inr (1, [.ref (u20 0), .int 0])), ((u20 0), .inl (cs 0, 16, .inl (fun _ => 0)))]) hP hD [3] [0, 1, 2] rfl rfl (by decide) (by decide) hk1 hFc hP1 hD1
  generalize H1 = H at hP hS ⊢
  have hP : va_P D vwCl [(h0, .inr (10, [.ref q5, .null, .null, .null])), (q5, .inr (1, [.ref (u9 0), .int 0])), ((u9 0), .inl (cs 0, 16, .inl (fun _ => 0))), (q16, .inr (1, [.ref (u20 0), .int 0])), ((u20 0), .inl (cs 0, 16, .inl (fun _ => 0)))] H := hP
  have hD : va_D A [(h0, .inr (10, [.ref q5, .null, .null, .null])), (q5, .inr (1, [.ref (u9 0), .int 0])), ((u9 0), .inl (cs 0, 16, .inl (fun _ => 0))), (q16, .inr (1, [.ref (u20 0), .int 0])), ((u20 0), .inl (cs 0, 16, .inl (fun _ => 0)))] := hD
  refine va_putF (D := D) (ci := 10) (v := .ref q16) (ty := .object "FlungFingers$Big") (C := RX10) (T := TX10) (N := 4) hx hb hts cl_10.2.1 tyX10 tyX10_ok nmX10 hown hK hP hD hS 0 rfl rfl 1 (by decide) (hts (.fieldLink RX10 16 "FlungFingers$Tail" "power" "LFlungFingers$Big;") iw_312) (fun _ h9 => h9) rfl hin rfl (by decide +kernel) rfl rfl (Nat.le_of_ble_eq_true rfl) di_X10_23 (fun H locs hP hD hS => ?_)
  have hP : va_P D vwCl [(h0, .inr (10, [.ref q5, .ref q16, .null, .null])), (q5, .inr (1, [.ref (u9 0), .int 0])), ((u9 0), .inl (cs 0, 16, .inl (fun _ => 0))), (q16, .inr (1, [.ref (u20 0), .int 0])), ((u20 0), .inl (cs 0, 16, .inl (fun _ => 0)))] H := hP
  have hD : va_D A [(h0, .inr (10, [.ref q5, .ref q16, .null, .null])), (q5, .inr (1, [.ref (u9 0), .int 0])), ((u9 0), .inl (cs 0, 16, .inl (fun _ => 0))), (q16, .inr (1, [.ref (u20 0), .int 0])), ((u20 0), .inl (cs 0, 16, .inl (fun _ => 0)))] := hD
  refine lv_aload_n hx hb di_X10_26 rfl (lv_at hl 0 rfl) ?_
  refine va_new (ci := 1) (fs := [.null, .int 0]) (C := RX1) (T := TX1) (N := 2) hx hb hts cl_1.2.1 tyX1 tyX1_ok hown (hts (.classLink RX10 7 RX1) iw_308) (hts (.instantiable RX1 2) iw_225) (hts (.initialized RX1) iw_103) hK hP hD hS hA rfl (fun j hj => by rcases (show j = 0 ∨ j = 1 by omega) with rfl | rfl <;> rfl) (Nat.le_of_ble_eq_true rfl) (Nat.le_of_ble_eq_true rfl) di_X10_27 (fun q27 H hP hD hS => ?_)
  have hP : va_P D vwCl [(h0, .inr (10, [.ref q5, .ref q16, .null, .null])), (q5, .inr (1, [.ref (u9 0), .int 0])), ((u9 0), .inl (cs 0, 16, .inl (fun _ => 0))), (q16, .inr (1, [.ref (u20 0), .int 0])), ((u20 0), .inl (cs 0, 16, .inl (fun _ => 0))), (q27, .inr (1, [.null, .int 0]))] H := hP
  have hD : va_D A [(h0, .inr (10, [.ref q5, .ref q16, .null, .null])), (q5, .inr (1, [.ref (u9 0), .int 0])), ((u9 0), .inl (cs 0, 16, .inl (fun _ => 0))), (q16, .inr (1, [.ref (u20 0), .int 0])), ((u20 0), .inl (cs 0, 16, .inl (fun _ => 0))), (q27, .inr (1, [.null, .int 0]))] := hD
  refine lv_dup hx hb di_X10_30 rfl ?_
  have hPc := hP.sub (ws' := [(q27, .inr (1, [.null, .int 0]))]) [5] rfl
  have hDc := hD.sub (ws' := [(q27, .inr (1, [.null, .int 0]))]) [5] (by decide) rfl
  have hFc := va_free (wc := [(q27, .inr (1, [.null, .int 0]))]) hD hS hA [5] rfl
  refine va_callv (va_runIN (Ts := rx_tbl) (As := []) (rest := [.ref q27, .ref h0]) ⟨hx, hb, hml, hown, hts⟩ (CI_X1 l D cs q27  H.size) ⟨va_cnB 0 hts (rx_gin gI_X1) rfl rfl rfl (hN _ in_309) (hts _ iw_103) ⟨by decide +kernel, by decide +kernel, by decide +kernel⟩ ⟨Nat.le_of_ble_eq_true rfl, Nat.le_of_ble_eq_true rfl⟩, rfl, (hts _ iw_227)⟩ ⟨rx_Pc_blind, fun U hU hW => ⟨rfl, by rw [hU], by rw [hU]; exact hPc, va_K.moved hW.alike hK, hDc.weaken (fun _ _ _ _ => trivial), rx_N_warm hW hN⟩⟩ rfl rfl hl.1 rfl (lv_room (Nat.le_of_ble_eq_true rfl)) di_X10_31 ⟨Nat.le_of_ble_eq_true rfl, Nat.le_of_ble_eq_true rfl⟩) hS (fun q _ h => hFc q h) hFc (fun u31 t H1 locs ht hvm hw hB hz1 hk1 hS => ?_)
  obtain ⟨hP1, hD1⟩ := hB
  rw [ht] at hP1
  obtain ⟨hP, hD⟩ := va_join (wr := [(h0, .inr (10, [.ref q5, .ref q16, .null, .null])), (q5, .inr (1, [.ref (u9 0), .int 0])), ((u9 0), .inl (cs 0, 16, .inl (fun _ => 0))), (q16, .inr (1, [.ref (u20 0), .int 0])), ((u20 0), .inl (cs 0, 16, .inl (fun _ => 0)))]) (w1 := [(q27, .inr (1, [.ref (u31 0), .int 0])), ((u31 0), .inl (cs 0, 16, .inl (fun _ => 0)))]) hP hD [5] [0, 1, 2, 3, 4] rfl rfl (by decide) (by decide) hk1 hFc hP1 hD1
  generalize H1 = H at hP hS ⊢
  have hP : va_P D vwCl [(h0, .inr (10, [.ref q5, .ref q16, .null, .null])), (q5, .inr (1, [.ref (u9 0), .int 0])), ((u9 0), .inl (cs 0, 16, .inl (fun _ => 0))), (q16, .inr (1, [.ref (u20 0), .int 0])), ((u20 0), .inl (cs 0, 16, .inl (fun _ => 0))), (q27, .inr (1, [.ref (u31 0), .int 0])), ((u31 0), .inl (cs 0, 16, .inl (fun _ => 0)))] H := hP
  have hD : va_D A [(h0, .inr (10, [.ref q5, .ref q16, .null, .null])), (q5, .inr (1, [.ref (u9 0), .int 0])), ((u9 0), .inl (cs 0, 16, .inl (fun _ => 0))), (q16, .inr (1, [.ref (u20 0), .int 0])), ((u20 0), .inl (cs 0, 16, .inl (fun _ => 0))), (q27, .inr (1, [.ref (u31 0), .int 0])), ((u31 0), .inl (cs 0, 16, .inl (fun _ => 0)))] := hD
  refine va_putF (D := D) (ci := 10) (v := .ref q27) (ty := .object "FlungFingers$Big") (C := RX10) (T := TX10) (N := 4) hx hb hts cl_10.2.1 tyX10 tyX10_ok nmX10 hown hK hP hD hS 0 rfl rfl 2 (by decide) (hts (.fieldLink RX10 19 "FlungFingers$Tail" "term" "LFlungFingers$Big;") iw_314) (fun _ h9 => h9) rfl hin rfl (by decide +kernel) rfl rfl (Nat.le_of_ble_eq_true rfl) di_X10_34 (fun H locs hP hD hS => ?_)
  have hP : va_P D vwCl [(h0, .inr (10, [.ref q5, .ref q16, .ref q27, .null])), (q5, .inr (1, [.ref (u9 0), .int 0])), ((u9 0), .inl (cs 0, 16, .inl (fun _ => 0))), (q16, .inr (1, [.ref (u20 0), .int 0])), ((u20 0), .inl (cs 0, 16, .inl (fun _ => 0))), (q27, .inr (1, [.ref (u31 0), .int 0])), ((u31 0), .inl (cs 0, 16, .inl (fun _ => 0)))] H := hP
  have hD : va_D A [(h0, .inr (10, [.ref q5, .ref q16, .ref q27, .null])), (q5, .inr (1, [.ref (u9 0), .int 0])), ((u9 0), .inl (cs 0, 16, .inl (fun _ => 0))), (q16, .inr (1, [.ref (u20 0), .int 0])), ((u20 0), .inl (cs 0, 16, .inl (fun _ => 0))), (q27, .inr (1, [.ref (u31 0), .int 0])), ((u31 0), .inl (cs 0, 16, .inl (fun _ => 0)))] := hD
  refine lv_aload_n hx hb di_X10_37 rfl (lv_at hl 0 rfl) ?_
  refine va_new (ci := 1) (fs := [.null, .int 0]) (C := RX1) (T := TX1) (N := 2) hx hb hts cl_1.2.1 tyX1 tyX1_ok hown (hts (.classLink RX10 7 RX1) iw_308) (hts (.instantiable RX1 2) iw_225) (hts (.initialized RX1) iw_103) hK hP hD hS hA rfl (fun j hj => by rcases (show j = 0 ∨ j = 1 by omega) with rfl | rfl <;> rfl) (Nat.le_of_ble_eq_true rfl) (Nat.le_of_ble_eq_true rfl) di_X10_38 (fun q38 H hP hD hS => ?_)
  have hP : va_P D vwCl [(h0, .inr (10, [.ref q5, .ref q16, .ref q27, .null])), (q5, .inr (1, [.ref (u9 0), .int 0])), ((u9 0), .inl (cs 0, 16, .inl (fun _ => 0))), (q16, .inr (1, [.ref (u20 0), .int 0])), ((u20 0), .inl (cs 0, 16, .inl (fun _ => 0))), (q27, .inr (1, [.ref (u31 0), .int 0])), ((u31 0), .inl (cs 0, 16, .inl (fun _ => 0))), (q38, .inr (1, [.null, .int 0]))] H := hP
  have hD : va_D A [(h0, .inr (10, [.ref q5, .ref q16, .ref q27, .null])), (q5, .inr (1, [.ref (u9 0), .int 0])), ((u9 0), .inl (cs 0, 16, .inl (fun _ => 0))), (q16, .inr (1, [.ref (u20 0), .int 0])), ((u20 0), .inl (cs 0, 16, .inl (fun _ => 0))), (q27, .inr (1, [.ref (u31 0), .int 0])), ((u31 0), .inl (cs 0, 16, .inl (fun _ => 0))), (q38, .inr (1, [.null, .int 0]))] := hD
  refine lv_dup hx hb di_X10_41 rfl ?_
  have hPc := hP.sub (ws' := [(q38, .inr (1, [.null, .int 0]))]) [7] rfl
  have hDc := hD.sub (ws' := [(q38, .inr (1, [.null, .int 0]))]) [7] (by decide) rfl
  have hFc := va_free (wc := [(q38, .inr (1, [.null, .int 0]))]) hD hS hA [7] rfl
  refine va_callv (va_runIN (Ts := rx_tbl) (As := []) (rest := [.ref q38, .ref h0]) ⟨hx, hb, hml, hown, hts⟩ (CI_X1 l D cs q38  H.size) ⟨va_cnB 0 hts (rx_gin gI_X1) rfl rfl rfl (hN _ in_309) (hts _ iw_103) ⟨by decide +kernel, by decide +kernel, by decide +kernel⟩ ⟨Nat.le_of_ble_eq_true rfl, Nat.le_of_ble_eq_true rfl⟩, rfl, (hts _ iw_227)⟩ ⟨rx_Pc_blind, fun U hU hW => ⟨rfl, by rw [hU], by rw [hU]; exact hPc, va_K.moved hW.alike hK, hDc.weaken (fun _ _ _ _ => trivial), rx_N_warm hW hN⟩⟩ rfl rfl hl.1 rfl (lv_room (Nat.le_of_ble_eq_true rfl)) di_X10_42 ⟨Nat.le_of_ble_eq_true rfl, Nat.le_of_ble_eq_true rfl⟩) hS (fun q _ h => hFc q h) hFc (fun u42 t H1 locs ht hvm hw hB hz1 hk1 hS => ?_)
  obtain ⟨hP1, hD1⟩ := hB
  rw [ht] at hP1
  obtain ⟨hP, hD⟩ := va_join (wr := [(h0, .inr (10, [.ref q5, .ref q16, .ref q27, .null])), (q5, .inr (1, [.ref (u9 0), .int 0])), ((u9 0), .inl (cs 0, 16, .inl (fun _ => 0))), (q16, .inr (1, [.ref (u20 0), .int 0])), ((u20 0), .inl (cs 0, 16, .inl (fun _ => 0))), (q27, .inr (1, [.ref (u31 0), .int 0])), ((u31 0), .inl (cs 0, 16, .inl (fun _ => 0)))]) (w1 := [(q38, .inr (1, [.ref (u42 0), .int 0])), ((u42 0), .inl (cs 0, 16, .inl (fun _ => 0)))]) hP hD [7] [0, 1, 2, 3, 4, 5, 6] rfl rfl (by decide) (by decide) hk1 hFc hP1 hD1
  generalize H1 = H at hP hS ⊢
  have hP : va_P D vwCl [(h0, .inr (10, [.ref q5, .ref q16, .ref q27, .null])), (q5, .inr (1, [.ref (u9 0), .int 0])), ((u9 0), .inl (cs 0, 16, .inl (fun _ => 0))), (q16, .inr (1, [.ref (u20 0), .int 0])), ((u20 0), .inl (cs 0, 16, .inl (fun _ => 0))), (q27, .inr (1, [.ref (u31 0), .int 0])), ((u31 0), .inl (cs 0, 16, .inl (fun _ => 0))), (q38, .inr (1, [.ref (u42 0), .int 0])), ((u42 0), .inl (cs 0, 16, .inl (fun _ => 0)))] H := hP
  have hD : va_D A [(h0, .inr (10, [.ref q5, .ref q16, .ref q27, .null])), (q5, .inr (1, [.ref (u9 0), .int 0])), ((u9 0), .inl (cs 0, 16, .inl (fun _ => 0))), (q16, .inr (1, [.ref (u20 0), .int 0])), ((u20 0), .inl (cs 0, 16, .inl (fun _ => 0))), (q27, .inr (1, [.ref (u31 0), .int 0])), ((u31 0), .inl (cs 0, 16, .inl (fun _ => 0))), (q38, .inr (1, [.ref (u42 0), .int 0])), ((u42 0), .inl (cs 0, 16, .inl (fun _ => 0)))] := hD
  refine va_putF (D := D) (ci := 10) (v := .ref q38) (ty := .object "FlungFingers$Big") (C := RX10) (T := TX10) (N := 4) hx hb hts cl_10.2.1 tyX10 tyX10_ok nmX10 hown hK hP hD hS 0 rfl rfl 3 (by decide) (hts (.fieldLink RX10 22 "FlungFingers$Tail" "limit" "LFlungFingers$Big;") iw_315) (fun _ h9 => h9) rfl hin rfl (by decide +kernel) rfl rfl (Nat.le_of_ble_eq_true rfl) di_X10_45 (fun H locs hP hD hS => ?_)
  have hP : va_P D vwCl [(h0, .inr (10, [.ref q5, .ref q16, .ref q27, .ref q38])), (q5, .inr (1, [.ref (u9 0), .int 0])), ((u9 0), .inl (cs 0, 16, .inl (fun _ => 0))), (q16, .inr (1, [.ref (u20 0), .int 0])), ((u20 0), .inl (cs 0, 16, .inl (fun _ => 0))), (q27, .inr (1, [.ref (u31 0), .int 0])), ((u31 0), .inl (cs 0, 16, .inl (fun _ => 0))), (q38, .inr (1, [.ref (u42 0), .int 0])), ((u42 0), .inl (cs 0, 16, .inl (fun _ => 0)))] H := hP
  have hD : va_D A [(h0, .inr (10, [.ref q5, .ref q16, .ref q27, .ref q38])), (q5, .inr (1, [.ref (u9 0), .int 0])), ((u9 0), .inl (cs 0, 16, .inl (fun _ => 0))), (q16, .inr (1, [.ref (u20 0), .int 0])), ((u20 0), .inl (cs 0, 16, .inl (fun _ => 0))), (q27, .inr (1, [.ref (u31 0), .int 0])), ((u31 0), .inl (cs 0, 16, .inl (fun _ => 0))), (q38, .inr (1, [.ref (u42 0), .int 0])), ((u42 0), .inl (cs 0, 16, .inl (fun _ => 0)))] := hD
  refine W.widen (k := 8) (n := 72) (Nat.le_of_ble_eq_true rfl) (Nat.le_of_ble_eq_true rfl) ?_
  exact W.vret hx hb hr (fun t ht hW => ⟨⟨(fun j => ([q5, (u9 0), q16, (u20 0), q27, (u31 0), q38, (u42 0)] : List Nat).getD j 0), rfl, trivial, by rw [ht]; exact hP, hD⟩, hS.F ht⟩) hS.2.2 di_X10_48
theorem di_X6_0 : decode cX6_init 0 = .ok (.aload_n 0, 1) := by decide +kernel
theorem di_X6_1 : decode cX6_init 1 = .ok (.invokespecial 3, 3) := by decide +kernel
theorem di_X6_4 : decode cX6_init 4 = .ok (.aload_n 0, 1) := by decide +kernel
theorem di_X6_5 : decode cX6_init 5 = .ok (.sipush 480, 3) := by decide +kernel
theorem di_X6_8 : decode cX6_init 8 = .ok (.newarray .int, 2) := by decide +kernel
theorem di_X6_10 : decode cX6_init 10 = .ok (.putfield 11, 3) := by decide +kernel
theorem di_X6_13 : decode cX6_init 13 = .ok (.aload_n 0, 1) := by decide +kernel
theorem di_X6_14 : decode cX6_init 14 = .ok (.iconst 4, 1) := by decide +kernel
theorem di_X6_15 : decode cX6_init 15 = .ok (.newarray .int, 2) := by decide +kernel
theorem di_X6_17 : decode cX6_init 17 = .ok (.putfield 15, 3) := by decide +kernel
theorem di_X6_20 : decode cX6_init 20 = .ok (.aload_n 0, 1) := by decide +kernel
theorem di_X6_21 : decode cX6_init 21 = .ok (.sipush 625, 3) := by decide +kernel
theorem di_X6_24 : decode cX6_init 24 = .ok (.newarray .int, 2) := by decide +kernel
theorem di_X6_26 : decode cX6_init 26 = .ok (.putfield 20, 3) := by decide +kernel
theorem di_X6_29 : decode cX6_init 29 = .ok (.aload_n 0, 1) := by decide +kernel
theorem di_X6_30 : decode cX6_init 30 = .ok (.sipush 780, 3) := by decide +kernel
theorem di_X6_33 : decode cX6_init 33 = .ok (.newarray .int, 2) := by decide +kernel
theorem di_X6_35 : decode cX6_init 35 = .ok (.putfield 23, 3) := by decide +kernel
theorem di_X6_38 : decode cX6_init 38 = .ok (.aload_n 0, 1) := by decide +kernel
theorem di_X6_39 : decode cX6_init 39 = .ok (.new 26, 3) := by decide +kernel
theorem di_X6_42 : decode cX6_init 42 = .ok (.dup, 1) := by decide +kernel
theorem di_X6_43 : decode cX6_init 43 = .ok (.invokespecial 28, 3) := by decide +kernel
theorem di_X6_46 : decode cX6_init 46 = .ok (.putfield 29, 3) := by decide +kernel
theorem di_X6_49 : decode cX6_init 49 = .ok (.aload_n 0, 1) := by decide +kernel
theorem di_X6_50 : decode cX6_init 50 = .ok (.aload_n 1, 1) := by decide +kernel
theorem di_X6_51 : decode cX6_init 51 = .ok (.putfield 33, 3) := by decide +kernel
theorem di_X6_54 : decode cX6_init 54 = .ok (.return_, 1) := by decide +kernel
def MI_X6 : rxM := (yX6_init, cX6_init, 2, none)
theorem gI_X6 : rx_gM MI_X6 1 := ⟨rx_tw 300 (by decide +kernel) rfl, iw_105, ⟨by decide +kernel, by decide +kernel, by decide +kernel⟩, by decide⟩
set_option maxRecDepth 100000 in
set_option maxHeartbeats 4000000 in
theorem CI_X6 (l : Launch) (D : va_G) (cs : Nat → ClassId) (h0 a1 : Nat) (sz : Nat) : Met l MI_X6.1 (rx_ws MI_X6) ({ frames := 4, cells := 13, slots := 1965, locals := 256 }) (va_Pc [.ref h0, .ref a1] (fun U => U.heap.size = sz ∧ va_P D vwCl [(h0, .inr (6, [.null, .null, .null, .null, .null, .int 0, .null]))] U.heap ∧ va_K D vwCl (rx_ty cs) U ∧ va_D (fun _ => True) [(h0, .inr (6, [.null, .null, .null, .null, .null, .int 0, .null]))] ∧ rx_N U)) (va_Qv (fun _ : Nat → Nat => True) (fun u t => va_P D vwCl [(h0, .inr (6, [.ref a1, .ref (u 0), .ref (u 1), .ref (u 2), .ref (u 3), .int 0, .ref (u 4)])), ((u 0), .inl (cs 0, 480, .inl (fun _ => 0))), ((u 1), .inl (cs 0, 4, .inl (fun _ => 0))), ((u 2), .inl (cs 0, 625, .inl (fun _ => 0))), ((u 3), .inl (cs 0, 780, .inl (fun _ => 0))), ((u 4), .inr (10, [.ref (u 5), .ref (u 7), .ref (u 9), .ref (u 11)])), ((u 5), .inr (1, [.ref (u 6), .int 0])), ((u 6), .inl (cs 0, 16, .inl (fun _ => 0))), ((u 7), .inr (1, [.ref (u 8), .int 0])), ((u 8), .inl (cs 0, 16, .inl (fun _ => 0))), ((u 9), .inr (1, [.ref (u 10), .int 0])), ((u 10), .inl (cs 0, 16, .inl (fun _ => 0))), ((u 11), .inr (1, [.ref (u 12), .int 0])), ((u 12), .inl (cs 0, 16, .inl (fun _ => 0)))] t.heap ∧ va_D (va_A [(h0, .inr (6, [.null, .null, .null, .null, .null, .int 0, .null]))] sz) [(h0, .inr (6, [.ref a1, .ref (u 0), .ref (u 1), .ref (u 2), .ref (u 3), .int 0, .ref (u 4)])), ((u 0), .inl (cs 0, 480, .inl (fun _ => 0))), ((u 1), .inl (cs 0, 4, .inl (fun _ => 0))), ((u 2), .inl (cs 0, 625, .inl (fun _ => 0))), ((u 3), .inl (cs 0, 780, .inl (fun _ => 0))), ((u 4), .inr (10, [.ref (u 5), .ref (u 7), .ref (u 9), .ref (u 11)])), ((u 5), .inr (1, [.ref (u 6), .int 0])), ((u 6), .inl (cs 0, 16, .inl (fun _ => 0))), ((u 7), .inr (1, [.ref (u 8), .int 0])), ((u 8), .inl (cs 0, 16, .inl (fun _ => 0))), ((u 9), .inr (1, [.ref (u 10), .int 0])), ((u 10), .inl (cs 0, 16, .inl (fun _ => 0))), ((u 11), .inr (1, [.ref (u 12), .int 0])), ((u 12), .inl (cs 0, 16, .inl (fun _ => 0)))]) (va_A [(h0, .inr (6, [.null, .null, .null, .null, .null, .int 0, .null]))] sz)) 13 1965 (va_A [(h0, .inr (6, [.null, .null, .null, .null, .null, .int 0, .null]))] sz) := by
  refine Met.ofW (cc := cX6_init) (maxL := 2) (ret := none) (by decide) rfl ?_
  intro p e s m args below meth c s₁ B hml hv
  obtain ⟨rfl, hsz, hP, hK, hD0, hN⟩ := hv
  have hx := B.exec
  have hb := B.bytes
  have hr := B.returns
  have hts0 := atoms_spec (ws := rx_ws MI_X6) B.pre
  have hts : ∀ w ∈ rx_tbl, w.before _ s = true := fun w hw => hts0 w (List.mem_cons_of_mem _ hw)
  have hown : s.vm.findClass RX6 = some m.cls := findClass_of_methodNamed B.named
  have hlocks := B.notSynchronized
  have hin : meth.name = "<init>" := (name_of_methodNamed B.named B.method).1
  subst hsz
  have hD := hD0.self (sz := s.heap.size)
  generalize hAe : va_A [(h0, .inr (6, [.null, .null, .null, .null, .null, .int 0, .null]))] s.heap.size = A at hD ⊢
  have hA : ∀ q : Nat, s.heap.size ≤ q → A q := fun q h => by rw [← hAe]; exact Or.inr h
  have hS : va_S A s.heap s.heap [] := va_S.rf
  have hl := lv_entry ([.ref h0, .ref a1]) (n := 2) (Nat.le_of_ble_eq_true rfl)
  rw [lg_entry_eq]
  generalize (lg_sl ([.ref h0, .ref a1]) ++ List.replicate (2 - (lg_sl ([.ref h0, .ref a1])).length) Slot.unset).toArray = ls at hl ⊢
  have hl : lv_has ls 2 [(0, .ref h0), (1, .ref a1)] := hl
  refine lv_aload_n hx hb di_X6_0 rfl (lv_at hl 0 rfl) ?_
  refine W.objInit hx hb hown (hts _ iw_301) (hts _ iw_123) (hts _ iw_124) rfl (by rw [hml]; exact hl.1) rfl di_X6_1 (Nat.le_of_ble_eq_true rfl) (Nat.le_of_ble_eq_true rfl) ?_
  refine W.eq (g2 := F0 m 4 ls []) rfl ?_
  refine lv_aload_n hx hb di_X6_4 rfl (lv_at hl 0 rfl) ?_
  refine lv_sipush (v := 480) hx hb di_X6_5 (by decide) ?_
  refine va_newa (atype := .int) (a0 := (480, .inl (fun _ => 0))) hx hb (hts _ iw_178) rfl hK hP hD hS hA (fun _ => rfl) (by decide) (by decide +kernel) (by decide +kernel) (Nat.le_of_ble_eq_true rfl) (Nat.le_of_ble_eq_true rfl) di_X6_8 (fun q8 cA H hK1 hP hD hS => ?_)
  obtain rfl := ac_int hK hK1
  have hP : va_P D vwCl [(h0, .inr (6, [.null, .null, .null, .null, .null, .int 0, .null])), (q8, .inl (cs 0, 480, .inl (fun _ => 0)))] H := hP
  have hD : va_D A [(h0, .inr (6, [.null, .null, .null, .null, .null, .int 0, .null])), (q8, .inl (cs 0, 480, .inl (fun _ => 0)))] := hD
  refine va_putF (D := D) (ci := 6) (v := .ref q8) (ty := .array .int) (C := RX6) (T := TX6) (N := 7) hx hb hts cl_6.2.1 tyX6 tyX6_ok nmX6 hown hK hP hD hS 0 rfl rfl 1 (by decide) (hts (.fieldLink RX6 11 "FlungFingers$Men" "rows" "[I") iw_326) (fun _ h9 => h9) rfl hin rfl (by decide +kernel) rfl rfl (Nat.le_of_ble_eq_true rfl) di_X6_10 (fun H locs hP hD hS => ?_)
  have hP : va_P D vwCl [(h0, .inr (6, [.null, .ref q8, .null, .null, .null, .int 0, .null])), (q8, .inl (cs 0, 480, .inl (fun _ => 0)))] H := hP
  have hD : va_D A [(h0, .inr (6, [.null, .ref q8, .null, .null, .null, .int 0, .null])), (q8, .inl (cs 0, 480, .inl (fun _ => 0)))] := hD
  refine lv_aload_n hx hb di_X6_13 rfl (lv_at hl 0 rfl) ?_
  refine lv_iconst (v := 4) hx hb di_X6_14 (by decide) ?_
  refine va_newa (atype := .int) (a0 := (4, .inl (fun _ => 0))) hx hb (hts _ iw_178) rfl hK hP hD hS hA (fun _ => rfl) (by decide) (by decide +kernel) (by decide +kernel) (Nat.le_of_ble_eq_true rfl) (Nat.le_of_ble_eq_true rfl) di_X6_15 (fun q15 cA H hK1 hP hD hS => ?_)
  obtain rfl := ac_int hK hK1
  have hP : va_P D vwCl [(h0, .inr (6, [.null, .ref q8, .null, .null, .null, .int 0, .null])), (q8, .inl (cs 0, 480, .inl (fun _ => 0))), (q15, .inl (cs 0, 4, .inl (fun _ => 0)))] H := hP
  have hD : va_D A [(h0, .inr (6, [.null, .ref q8, .null, .null, .null, .int 0, .null])), (q8, .inl (cs 0, 480, .inl (fun _ => 0))), (q15, .inl (cs 0, 4, .inl (fun _ => 0)))] := hD
  refine va_putF (D := D) (ci := 6) (v := .ref q15) (ty := .array .int) (C := RX6) (T := TX6) (N := 7) hx hb hts cl_6.2.1 tyX6 tyX6_ok nmX6 hown hK hP hD hS 0 rfl rfl 2 (by decide) (hts (.fieldLink RX6 15 "FlungFingers$Men" "lengths" "[I") iw_327) (fun _ h9 => h9) rfl hin rfl (by decide +kernel) rfl rfl (Nat.le_of_ble_eq_true rfl) di_X6_17 (fun H locs hP hD hS => ?_)
  have hP : va_P D vwCl [(h0, .inr (6, [.null, .ref q8, .ref q15, .null, .null, .int 0, .null])), (q8, .inl (cs 0, 480, .inl (fun _ => 0))), (q15, .inl (cs 0, 4, .inl (fun _ => 0)))] H := hP
  have hD : va_D A [(h0, .inr (6, [.null, .ref q8, .ref q15, .null, .null, .int 0, .null])), (q8, .inl (cs 0, 480, .inl (fun _ => 0))), (q15, .inl (cs 0, 4, .inl (fun _ => 0)))] := hD
  refine lv_aload_n hx hb di_X6_20 rfl (lv_at hl 0 rfl) ?_
  refine lv_sipush (v := 625) hx hb di_X6_21 (by decide) ?_
  refine va_newa (atype := .int) (a0 := (625, .inl (fun _ => 0))) hx hb (hts _ iw_178) rfl hK hP hD hS hA (fun _ => rfl) (by decide) (by decide +kernel) (by decide +kernel) (Nat.le_of_ble_eq_true rfl) (Nat.le_of_ble_eq_true rfl) di_X6_24 (fun q24 cA H hK1 hP hD hS => ?_)
  obtain rfl := ac_int hK hK1
  have hP : va_P D vwCl [(h0, .inr (6, [.null, .ref q8, .ref q15, .null, .null, .int 0, .null])), (q8, .inl (cs 0, 480, .inl (fun _ => 0))), (q15, .inl (cs 0, 4, .inl (fun _ => 0))), (q24, .inl (cs 0, 625, .inl (fun _ => 0)))] H := hP
  have hD : va_D A [(h0, .inr (6, [.null, .ref q8, .ref q15, .null, .null, .int 0, .null])), (q8, .inl (cs 0, 480, .inl (fun _ => 0))), (q15, .inl (cs 0, 4, .inl (fun _ => 0))), (q24, .inl (cs 0, 625, .inl (fun _ => 0)))] := hD
  refine va_putF (D := D) (ci := 6) (v := .ref q24) (ty := .array .int) (C := RX6) (T := TX6) (N := 7) hx hb hts cl_6.2.1 tyX6 tyX6_ok nmX6 hown hK hP hD hS 0 rfl rfl 3 (by decide) (hts (.fieldLink RX6 20 "FlungFingers$Men" "counts" "[I") iw_328) (fun _ h9 => h9) rfl hin rfl (by decide +kernel) rfl rfl (Nat.le_of_ble_eq_true rfl) di_X6_26 (fun H locs hP hD hS => ?_)
  have hP : va_P D vwCl [(h0, .inr (6, [.null, .ref q8, .ref q15, .ref q24, .null, .int 0, .null])), (q8, .inl (cs 0, 480, .inl (fun _ => 0))), (q15, .inl (cs 0, 4, .inl (fun _ => 0))), (q24, .inl (cs 0, 625, .inl (fun _ => 0)))] H := hP
  have hD : va_D A [(h0, .inr (6, [.null, .ref q8, .ref q15, .ref q24, .null, .int 0, .null])), (q8, .inl (cs 0, 480, .inl (fun _ => 0))), (q15, .inl (cs 0, 4, .inl (fun _ => 0))), (q24, .inl (cs 0, 625, .inl (fun _ => 0)))] := hD
  refine lv_aload_n hx hb di_X6_29 rfl (lv_at hl 0 rfl) ?_
  refine lv_sipush (v := 780) hx hb di_X6_30 (by decide) ?_
  refine va_newa (atype := .int) (a0 := (780, .inl (fun _ => 0))) hx hb (hts _ iw_178) rfl hK hP hD hS hA (fun _ => rfl) (by decide) (by decide +kernel) (by decide +kernel) (Nat.le_of_ble_eq_true rfl) (Nat.le_of_ble_eq_true rfl) di_X6_33 (fun q33 cA H hK1 hP hD hS => ?_)
  obtain rfl := ac_int hK hK1
  have hP : va_P D vwCl [(h0, .inr (6, [.null, .ref q8, .ref q15, .ref q24, .null, .int 0, .null])), (q8, .inl (cs 0, 480, .inl (fun _ => 0))), (q15, .inl (cs 0, 4, .inl (fun _ => 0))), (q24, .inl (cs 0, 625, .inl (fun _ => 0))), (q33, .inl (cs 0, 780, .inl (fun _ => 0)))] H := hP
  have hD : va_D A [(h0, .inr (6, [.null, .ref q8, .ref q15, .ref q24, .null, .int 0, .null])), (q8, .inl (cs 0, 480, .inl (fun _ => 0))), (q15, .inl (cs 0, 4, .inl (fun _ => 0))), (q24, .inl (cs 0, 625, .inl (fun _ => 0))), (q33, .inl (cs 0, 780, .inl (fun _ => 0)))] := hD
  refine va_putF (D := D) (ci := 6) (v := .ref q33) (ty := .array .int) (C := RX6) (T := TX6) (N := 7) hx hb hts cl_6.2.1 tyX6 tyX6_ok nmX6 hown hK hP hD hS 0 rfl rfl 4 (by decide) (hts (.fieldLink RX6 23 "FlungFingers$Men" "codes" "[I") iw_329) (fun _ h9 => h9) rfl hin rfl (by decide +kernel) rfl rfl (Nat.le_of_ble_eq_true rfl) di_X6_35 (fun H locs hP hD hS => ?_)
  have hP : va_P D vwCl [(h0, .inr (6, [.null, .ref q8, .ref q15, .ref q24, .ref q33, .int 0, .null])), (q8, .inl (cs 0, 480, .inl (fun _ => 0))), (q15, .inl (cs 0, 4, .inl (fun _ => 0))), (q24, .inl (cs 0, 625, .inl (fun _ => 0))), (q33, .inl (cs 0, 780, .inl (fun _ => 0)))] H := hP
  have hD : va_D A [(h0, .inr (6, [.null, .ref q8, .ref q15, .ref q24, .ref q33, .int 0, .null])), (q8, .inl (cs 0, 480, .inl (fun _ => 0))), (q15, .inl (cs 0, 4, .inl (fun _ => 0))), (q24, .inl (cs 0, 625, .inl (fun _ => 0))), (q33, .inl (cs 0, 780, .inl (fun _ => 0)))] := hD
  refine lv_aload_n hx hb di_X6_38 rfl (lv_at hl 0 rfl) ?_
  refine va_new (ci := 10) (fs := [.null, .null, .null, .null]) (C := RX10) (T := TX10) (N := 4) hx hb hts cl_10.2.1 tyX10 tyX10_ok hown (hts (.classLink RX6 26 RX10) iw_302) (hts (.instantiable RX10 4) iw_303) (hts (.initialized RX10) iw_106) hK hP hD hS hA rfl (fun j hj => by rcases (show j = 0 ∨ j = 1 ∨ j = 2 ∨ j = 3 by omega) with rfl | rfl | rfl | rfl <;> rfl) (Nat.le_of_ble_eq_true rfl) (Nat.le_of_ble_eq_true rfl) di_X6_39 (fun q39 H hP hD hS => ?_)
  have hP : va_P D vwCl [(h0, .inr (6, [.null, .ref q8, .ref q15, .ref q24, .ref q33, .int 0, .null])), (q8, .inl (cs 0, 480, .inl (fun _ => 0))), (q15, .inl (cs 0, 4, .inl (fun _ => 0))), (q24, .inl (cs 0, 625, .inl (fun _ => 0))), (q33, .inl (cs 0, 780, .inl (fun _ => 0))), (q39, .inr (10, [.null, .null, .null, .null]))] H := hP
  have hD : va_D A [(h0, .inr (6, [.null, .ref q8, .ref q15, .ref q24, .ref q33, .int 0, .null])), (q8, .inl (cs 0, 480, .inl (fun _ => 0))), (q15, .inl (cs 0, 4, .inl (fun _ => 0))), (q24, .inl (cs 0, 625, .inl (fun _ => 0))), (q33, .inl (cs 0, 780, .inl (fun _ => 0))), (q39, .inr (10, [.null, .null, .null, .null]))] := hD
  refine lv_dup hx hb di_X6_42 rfl ?_
  have hPc := hP.sub (ws' := [(q39, .inr (10, [.null, .null, .null, .null]))]) [5] rfl
  have hDc := hD.sub (ws' := [(q39, .inr (10, [.null, .null, .null, .null]))]) [5] (by decide) rfl
  have hFc := va_free (wc := [(q39, .inr (10, [.null, .null, .null, .null]))]) hD hS hA [5] rfl
  refine va_callv (va_runIN (Ts := rx_tbl) (As := []) (rest := [.ref q39, .ref h0]) ⟨hx, hb, hml, hown, hts⟩ (CI_X10 l D cs q39  H.size) ⟨va_cnB 0 hts (rx_gin gI_X10) rfl rfl rfl (hN _ in_304) (hts _ iw_106) ⟨by decide +kernel, by decide +kernel, by decide +kernel⟩ ⟨Nat.le_of_ble_eq_true rfl, Nat.le_of_ble_eq_true rfl⟩, rfl, (hts _ iw_305)⟩ ⟨rx_Pc_blind, fun U hU hW => ⟨rfl, by rw [hU], by rw [hU]; exact hPc, va_K.moved hW.alike hK, hDc.weaken (fun _ _ _ _ => trivial), rx_N_warm hW hN⟩⟩ rfl rfl hl.1 rfl (lv_room (Nat.le_of_ble_eq_true rfl)) di_X6_43 ⟨Nat.le_of_ble_eq_true rfl, Nat.le_of_ble_eq_true rfl⟩) hS (fun q _ h => hFc q h) hFc (fun u43 t H1 locs ht hvm hw hB hz1 hk1 hS => ?_)
  obtain ⟨hP1, hD1⟩ := hB
  rw [ht] at hP1
  obtain ⟨hP, hD⟩ := va_join (wr := [(h0, .inr (6, [.null, .ref q8, .ref q15, .ref q24, .ref q33, .int 0, .null])), (q8, .inl (cs 0, 480, .inl (fun _ => 0))), (q15, .inl (cs 0, 4, .inl (fun _ => 0))), (q24, .inl (cs 0, 625, .inl (fun _ => 0))), (q33, .inl (cs 0, 780, .inl (fun _ => 0)))]) (w1 := [(q39, .inr (10, [.ref (u43 0), .ref (u43 2), .ref (u43 4), .ref (u43 6)])), ((u43 0), .inr (1, [.ref (u43 1), .int 0])), ((u43 1), .inl (cs 0, 16, .inl (fun _ => 0))), ((u43 2), .inr (1, [.ref (u43 3), .int 0])), ((u43 3), .inl (cs 0, 16, .inl (fun _ => 0))), ((u43 4), .inr (1, [.ref (u43 5), .int 0])), ((u43 5), .inl (cs 0, 16, .inl (fun _ => 0))), ((u43 6), .inr (1, [.ref (u43 7), .int 0])), ((u43 7), .inl (cs 0, 16, .inl (fun _ => 0)))]) hP hD [5] [0, 1, 2, 3, 4] rfl rfl (by decide) (by decide) hk1 hFc hP1 hD1
  generalize H1 = H at hP hS ⊢
  have hP : va_P D vwCl [(h0, .inr (6, [.null, .ref q8, .ref q15, .ref q24, .ref q33, .int 0, .null])), (q8, .inl (cs 0, 480, .inl (fun _ => 0))), (q15, .inl (cs 0, 4, .inl (fun _ => 0))), (q24, .inl (cs 0, 625, .inl (fun _ => 0))), (q33, .inl (cs 0, 780, .inl (fun _ => 0))), (q39, .inr (10, [.ref (u43 0), .ref (u43 2), .ref (u43 4), .ref (u43 6)])), ((u43 0), .inr (1, [.ref (u43 1), .int 0])), ((u43 1), .inl (cs 0, 16, .inl (fun _ => 0))), ((u43 2), .inr (1, [.ref (u43 3), .int 0])), ((u43 3), .inl (cs 0, 16, .inl (fun _ => 0))), ((u43 4), .inr (1, [.ref (u43 5), .int 0])), ((u43 5), .inl (cs 0, 16, .inl (fun _ => 0))), ((u43 6), .inr (1, [.ref (u43 7), .int 0])), ((u43 7), .inl (cs 0, 16, .inl (fun _ => 0)))] H := hP
  have hD : va_D A [(h0, .inr (6, [.null, .ref q8, .ref q15, .ref q24, .ref q33, .int 0, .null])), (q8, .inl (cs 0, 480, .inl (fun _ => 0))), (q15, .inl (cs 0, 4, .inl (fun _ => 0))), (q24, .inl (cs 0, 625, .inl (fun _ => 0))), (q33, .inl (cs 0, 780, .inl (fun _ => 0))), (q39, .inr (10, [.ref (u43 0), .ref (u43 2), .ref (u43 4), .ref (u43 6)])), ((u43 0), .inr (1, [.ref (u43 1), .int 0])), ((u43 1), .inl (cs 0, 16, .inl (fun _ => 0))), ((u43 2), .inr (1, [.ref (u43 3), .int 0])), ((u43 3), .inl (cs 0, 16, .inl (fun _ => 0))), ((u43 4), .inr (1, [.ref (u43 5), .int 0])), ((u43 5), .inl (cs 0, 16, .inl (fun _ => 0))), ((u43 6), .inr (1, [.ref (u43 7), .int 0])), ((u43 7), .inl (cs 0, 16, .inl (fun _ => 0)))] := hD
  refine va_putF (D := D) (ci := 6) (v := .ref q39) (ty := .object "FlungFingers$Tail") (C := RX6) (T := TX6) (N := 7) hx hb hts cl_6.2.1 tyX6 tyX6_ok nmX6 hown hK hP hD hS 0 rfl rfl 6 (by decide) (hts (.fieldLink RX6 29 "FlungFingers$Men" "chances" "LFlungFingers$Tail;") iw_331) (fun _ h9 => h9) rfl hin rfl (by decide +kernel) rfl rfl (Nat.le_of_ble_eq_true rfl) di_X6_46 (fun H locs hP hD hS => ?_)
  have hP : va_P D vwCl [(h0, .inr (6, [.null, .ref q8, .ref q15, .ref q24, .ref q33, .int 0, .ref q39])), (q8, .inl (cs 0, 480, .inl (fun _ => 0))), (q15, .inl (cs 0, 4, .inl (fun _ => 0))), (q24, .inl (cs 0, 625, .inl (fun _ => 0))), (q33, .inl (cs 0, 780, .inl (fun _ => 0))), (q39, .inr (10, [.ref (u43 0), .ref (u43 2), .ref (u43 4), .ref (u43 6)])), ((u43 0), .inr (1, [.ref (u43 1), .int 0])), ((u43 1), .inl (cs 0, 16, .inl (fun _ => 0))), ((u43 2), .inr (1, [.ref (u43 3), .int 0])), ((u43 3), .inl (cs 0, 16, .inl (fun _ => 0))), ((u43 4), .inr (1, [.ref (u43 5), .int 0])), ((u43 5), .inl (cs 0, 16, .inl (fun _ => 0))), ((u43 6), .inr (1, [.ref (u43 7), .int 0])), ((u43 7), .inl (cs 0, 16, .inl (fun _ => 0)))] H := hP
  have hD : va_D A [(h0, .inr (6, [.null, .ref q8, .ref q15, .ref q24, .ref q33, .int 0, .ref q39])), (q8, .inl (cs 0, 480, .inl (fun _ => 0))), (q15, .inl (cs 0, 4, .inl (fun _ => 0))), (q24, .inl (cs 0, 625, .inl (fun _ => 0))), (q33, .inl (cs 0, 780, .inl (fun _ => 0))), (q39, .inr (10, [.ref (u43 0), .ref (u43 2), .ref (u43 4), .ref (u43 6)])), ((u43 0), .inr (1, [.ref (u43 1), .int 0])), ((u43 1), .inl (cs 0, 16, .inl (fun _ => 0))), ((u43 2), .inr (1, [.ref (u43 3), .int 0])), ((u43 3), .inl (cs 0, 16, .inl (fun _ => 0))), ((u43 4), .inr (1, [.ref (u43 5), .int 0])), ((u43 5), .inl (cs 0, 16, .inl (fun _ => 0))), ((u43 6), .inr (1, [.ref (u43 7), .int 0])), ((u43 7), .inl (cs 0, 16, .inl (fun _ => 0)))] := hD
  refine lv_aload_n hx hb di_X6_49 rfl (lv_at hl 0 rfl) ?_
  refine lv_aload_n hx hb di_X6_50 rfl (lv_at hl 1 rfl) ?_
  refine va_putF (D := D) (ci := 6) (v := .ref a1) (ty := .object "FlungFingers$Rule") (C := RX6) (T := TX6) (N := 7) hx hb hts cl_6.2.1 tyX6 tyX6_ok nmX6 hown hK hP hD hS 0 rfl rfl 0 (by decide) (hts (.fieldLink RX6 33 "FlungFingers$Men" "law" "LFlungFingers$Rule;") iw_325) (fun _ h9 => h9) rfl hin rfl (by decide +kernel) rfl rfl (Nat.le_of_ble_eq_true rfl) di_X6_51 (fun H locs hP hD hS => ?_)
  have hP : va_P D vwCl [(h0, .inr (6, [.ref a1, .ref q8, .ref q15, .ref q24, .ref q33, .int 0, .ref q39])), (q8, .inl (cs 0, 480, .inl (fun _ => 0))), (q15, .inl (cs 0, 4, .inl (fun _ => 0))), (q24, .inl (cs 0, 625, .inl (fun _ => 0))), (q33, .inl (cs 0, 780, .inl (fun _ => 0))), (q39, .inr (10, [.ref (u43 0), .ref (u43 2), .ref (u43 4), .ref (u43 6)])), ((u43 0), .inr (1, [.ref (u43 1), .int 0])), ((u43 1), .inl (cs 0, 16, .inl (fun _ => 0))), ((u43 2), .inr (1, [.ref (u43 3), .int 0])), ((u43 3), .inl (cs 0, 16, .inl (fun _ => 0))), ((u43 4), .inr (1, [.ref (u43 5), .int 0])), ((u43 5), .inl (cs 0, 16, .inl (fun _ => 0))), ((u43 6), .inr (1, [.ref (u43 7), .int 0])), ((u43 7), .inl (cs 0, 16, .inl (fun _ => 0)))] H := hP
  have hD : va_D A [(h0, .inr (6, [.ref a1, .ref q8, .ref q15, .ref q24, .ref q33, .int 0, .ref q39])), (q8, .inl (cs 0, 480, .inl (fun _ => 0))), (q15, .inl (cs 0, 4, .inl (fun _ => 0))), (q24, .inl (cs 0, 625, .inl (fun _ => 0))), (q33, .inl (cs 0, 780, .inl (fun _ => 0))), (q39, .inr (10, [.ref (u43 0), .ref (u43 2), .ref (u43 4), .ref (u43 6)])), ((u43 0), .inr (1, [.ref (u43 1), .int 0])), ((u43 1), .inl (cs 0, 16, .inl (fun _ => 0))), ((u43 2), .inr (1, [.ref (u43 3), .int 0])), ((u43 3), .inl (cs 0, 16, .inl (fun _ => 0))), ((u43 4), .inr (1, [.ref (u43 5), .int 0])), ((u43 5), .inl (cs 0, 16, .inl (fun _ => 0))), ((u43 6), .inr (1, [.ref (u43 7), .int 0])), ((u43 7), .inl (cs 0, 16, .inl (fun _ => 0)))] := hD
  refine W.widen (k := 13) (n := 1965) (Nat.le_of_ble_eq_true rfl) (Nat.le_of_ble_eq_true rfl) ?_
  exact W.vret hx hb hr (fun t ht hW => ⟨⟨(fun j => ([q8, q15, q24, q33, q39, (u43 0), (u43 1), (u43 2), (u43 3), (u43 4), (u43 5), (u43 6), (u43 7)] : List Nat).getD j 0), rfl, trivial, by rw [ht]; exact hP, hD⟩, hS.F ht⟩) hS.2.2 di_X6_54
theorem di_X7_0 : decode cX7_init 0 = .ok (.aload_n 0, 1) := by decide +kernel
theorem di_X7_1 : decode cX7_init 1 = .ok (.invokespecial 3, 3) := by decide +kernel
theorem di_X7_4 : decode cX7_init 4 = .ok (.aload_n 0, 1) := by decide +kernel
theorem di_X7_5 : decode cX7_init 5 = .ok (.bipush 25, 2) := by decide +kernel
theorem di_X7_7 : decode cX7_init 7 = .ok (.newarray .long, 2) := by decide +kernel
theorem di_X7_9 : decode cX7_init 9 = .ok (.putfield 11, 3) := by decide +kernel
theorem di_X7_12 : decode cX7_init 12 = .ok (.aload_n 0, 1) := by decide +kernel
theorem di_X7_13 : decode cX7_init 13 = .ok (.bipush 25, 2) := by decide +kernel
theorem di_X7_15 : decode cX7_init 15 = .ok (.newarray .long, 2) := by decide +kernel
theorem di_X7_17 : decode cX7_init 17 = .ok (.putfield 17, 3) := by decide +kernel
theorem di_X7_20 : decode cX7_init 20 = .ok (.aload_n 0, 1) := by decide +kernel
theorem di_X7_21 : decode cX7_init 21 = .ok (.bipush 25, 2) := by decide +kernel
theorem di_X7_23 : decode cX7_init 23 = .ok (.newarray .long, 2) := by decide +kernel
theorem di_X7_25 : decode cX7_init 25 = .ok (.putfield 20, 3) := by decide +kernel
theorem di_X7_28 : decode cX7_init 28 = .ok (.aload_n 0, 1) := by decide +kernel
theorem di_X7_29 : decode cX7_init 29 = .ok (.new 23, 3) := by decide +kernel
theorem di_X7_32 : decode cX7_init 32 = .ok (.dup, 1) := by decide +kernel
theorem di_X7_33 : decode cX7_init 33 = .ok (.invokespecial 25, 3) := by decide +kernel
theorem di_X7_36 : decode cX7_init 36 = .ok (.putfield 26, 3) := by decide +kernel
theorem di_X7_39 : decode cX7_init 39 = .ok (.aload_n 0, 1) := by decide +kernel
theorem di_X7_40 : decode cX7_init 40 = .ok (.new 23, 3) := by decide +kernel
theorem di_X7_43 : decode cX7_init 43 = .ok (.dup, 1) := by decide +kernel
theorem di_X7_44 : decode cX7_init 44 = .ok (.invokespecial 25, 3) := by decide +kernel
theorem di_X7_47 : decode cX7_init 47 = .ok (.putfield 30, 3) := by decide +kernel
theorem di_X7_50 : decode cX7_init 50 = .ok (.aload_n 0, 1) := by decide +kernel
theorem di_X7_51 : decode cX7_init 51 = .ok (.new 23, 3) := by decide +kernel
theorem di_X7_54 : decode cX7_init 54 = .ok (.dup, 1) := by decide +kernel
theorem di_X7_55 : decode cX7_init 55 = .ok (.invokespecial 25, 3) := by decide +kernel
theorem di_X7_58 : decode cX7_init 58 = .ok (.putfield 33, 3) := by decide +kernel
theorem di_X7_61 : decode cX7_init 61 = .ok (.aload_n 0, 1) := by decide +kernel
theorem di_X7_62 : decode cX7_init 62 = .ok (.new 23, 3) := by decide +kernel
theorem di_X7_65 : decode cX7_init 65 = .ok (.dup, 1) := by decide +kernel
theorem di_X7_66 : decode cX7_init 66 = .ok (.invokespecial 25, 3) := by decide +kernel
theorem di_X7_69 : decode cX7_init 69 = .ok (.putfield 36, 3) := by decide +kernel
theorem di_X7_72 : decode cX7_init 72 = .ok (.aload_n 0, 1) := by decide +kernel
theorem di_X7_73 : decode cX7_init 73 = .ok (.iconst (-1), 1) := by decide +kernel
theorem di_X7_74 : decode cX7_init 74 = .ok (.putfield 39, 3) := by decide +kernel
theorem di_X7_77 : decode cX7_init 77 = .ok (.aload_n 0, 1) := by decide +kernel
theorem di_X7_78 : decode cX7_init 78 = .ok (.lconst 1, 1) := by decide +kernel
theorem di_X7_79 : decode cX7_init 79 = .ok (.putfield 43, 3) := by decide +kernel
theorem di_X7_82 : decode cX7_init 82 = .ok (.aload_n 0, 1) := by decide +kernel
theorem di_X7_83 : decode cX7_init 83 = .ok (.lconst 1, 1) := by decide +kernel
theorem di_X7_84 : decode cX7_init 84 = .ok (.putfield 47, 3) := by decide +kernel
theorem di_X7_87 : decode cX7_init 87 = .ok (.aload_n 0, 1) := by decide +kernel
theorem di_X7_88 : decode cX7_init 88 = .ok (.aload_n 1, 1) := by decide +kernel
theorem di_X7_89 : decode cX7_init 89 = .ok (.putfield 50, 3) := by decide +kernel
theorem di_X7_92 : decode cX7_init 92 = .ok (.aload_n 0, 1) := by decide +kernel
theorem di_X7_93 : decode cX7_init 93 = .ok (.aload_n 2, 1) := by decide +kernel
theorem di_X7_94 : decode cX7_init 94 = .ok (.putfield 54, 3) := by decide +kernel
theorem di_X7_97 : decode cX7_init 97 = .ok (.return_, 1) := by decide +kernel
def MI_X7 : rxM := (yX7_init, cX7_init, 3, none)
theorem gI_X7 : rx_gM MI_X7 2 := ⟨rx_tw 352 (by decide +kernel) rfl, iw_107, ⟨by decide +kernel, by decide +kernel, by decide +kernel⟩, by decide⟩
set_option maxRecDepth 100000 in
set_option maxHeartbeats 4000000 in
theorem CI_X7 (l : Launch) (D : va_G) (cs : Nat → ClassId) (h0 a1 a2 : Nat) (sz : Nat) : Met l MI_X7.1 (rx_ws MI_X7) ({ frames := 3, cells := 11, slots := 147, locals := 192 }) (va_Pc [.ref h0, .ref a1, .ref a2] (fun U => U.heap.size = sz ∧ va_P D vwCl [(h0, .inr (7, [.null, .null, .null, .null, .null, .null, .null, .null, .null, .long 0, .long 0, .int 0, .long 0, .long 0, .long 0, .long 0, .long 0]))] U.heap ∧ va_K D vwCl (rx_ty cs) U ∧ va_D (fun _ => True) [(h0, .inr (7, [.null, .null, .null, .null, .null, .null, .null, .null, .null, .long 0, .long 0, .int 0, .long 0, .long 0, .long 0, .long 0, .long 0]))] ∧ rx_N U)) (va_Qv (fun _ : Nat → Nat => True) (fun u t => va_P D vwCl [(h0, .inr (7, [.ref a1, .ref a2, .ref (u 0), .ref (u 1), .ref (u 2), .ref (u 3), .ref (u 5), .ref (u 7), .ref (u 9), .long 0, .long 0, .int (-1), .long 0, .long 0, .long 1, .long 0, .long 1])), ((u 0), .inl (cs 1, 25, .inr (.inl (fun _ => 0)))), ((u 1), .inl (cs 1, 25, .inr (.inl (fun _ => 0)))), ((u 2), .inl (cs 1, 25, .inr (.inl (fun _ => 0)))), ((u 3), .inr (1, [.ref (u 4), .int 0])), ((u 4), .inl (cs 0, 16, .inl (fun _ => 0))), ((u 5), .inr (1, [.ref (u 6), .int 0])), ((u 6), .inl (cs 0, 16, .inl (fun _ => 0))), ((u 7), .inr (1, [.ref (u 8), .int 0])), ((u 8), .inl (cs 0, 16, .inl (fun _ => 0))), ((u 9), .inr (1, [.ref (u 10), .int 0])), ((u 10), .inl (cs 0, 16, .inl (fun _ => 0)))] t.heap ∧ va_D (va_A [(h0, .inr (7, [.null, .null, .null, .null, .null, .null, .null, .null, .null, .long 0, .long 0, .int 0, .long 0, .long 0, .long 0, .long 0, .long 0]))] sz) [(h0, .inr (7, [.ref a1, .ref a2, .ref (u 0), .ref (u 1), .ref (u 2), .ref (u 3), .ref (u 5), .ref (u 7), .ref (u 9), .long 0, .long 0, .int (-1), .long 0, .long 0, .long 1, .long 0, .long 1])), ((u 0), .inl (cs 1, 25, .inr (.inl (fun _ => 0)))), ((u 1), .inl (cs 1, 25, .inr (.inl (fun _ => 0)))), ((u 2), .inl (cs 1, 25, .inr (.inl (fun _ => 0)))), ((u 3), .inr (1, [.ref (u 4), .int 0])), ((u 4), .inl (cs 0, 16, .inl (fun _ => 0))), ((u 5), .inr (1, [.ref (u 6), .int 0])), ((u 6), .inl (cs 0, 16, .inl (fun _ => 0))), ((u 7), .inr (1, [.ref (u 8), .int 0])), ((u 8), .inl (cs 0, 16, .inl (fun _ => 0))), ((u 9), .inr (1, [.ref (u 10), .int 0])), ((u 10), .inl (cs 0, 16, .inl (fun _ => 0)))]) (va_A [(h0, .inr (7, [.null, .null, .null, .null, .null, .null, .null, .null, .null, .long 0, .long 0, .int 0, .long 0, .long 0, .long 0, .long 0, .long 0]))] sz)) 11 147 (va_A [(h0, .inr (7, [.null, .null, .null, .null, .null, .null, .null, .null, .null, .long 0, .long 0, .int 0, .long 0, .long 0, .long 0, .long 0, .long 0]))] sz) := by
  refine Met.ofW (cc := cX7_init) (maxL := 3) (ret := none) (by decide) rfl ?_
  intro p e s m args below meth c s₁ B hml hv
  obtain ⟨rfl, hsz, hP, hK, hD0, hN⟩ := hv
  have hx := B.exec
  have hb := B.bytes
  have hr := B.returns
  have hts0 := atoms_spec (ws := rx_ws MI_X7) B.pre
  have hts : ∀ w ∈ rx_tbl, w.before _ s = true := fun w hw => hts0 w (List.mem_cons_of_mem _ hw)
  have hown : s.vm.findClass RX7 = some m.cls := findClass_of_methodNamed B.named
  have hlocks := B.notSynchronized
  have hin : meth.name = "<init>" := (name_of_methodNamed B.named B.method).1
  subst hsz
  have hD := hD0.self (sz := s.heap.size)
  generalize hAe : va_A [(h0, .inr (7, [.null, .null, .null, .null, .null, .null, .null, .null, .null, .long 0, .long 0, .int 0, .long 0, .long 0, .long 0, .long 0, .long 0]))] s.heap.size = A at hD ⊢
  have hA : ∀ q : Nat, s.heap.size ≤ q → A q := fun q h => by rw [← hAe]; exact Or.inr h
  have hS : va_S A s.heap s.heap [] := va_S.rf
  have hl := lv_entry ([.ref h0, .ref a1, .ref a2]) (n := 3) (Nat.le_of_ble_eq_true rfl)
  rw [lg_entry_eq]
  generalize (lg_sl ([.ref h0, .ref a1, .ref a2]) ++ List.replicate (3 - (lg_sl ([.ref h0, .ref a1, .ref a2])).length) Slot.unset).toArray = ls at hl ⊢
  have hl : lv_has ls 3 [(0, .ref h0), (1, .ref a1), (2, .ref a2)] := hl
  refine lv_aload_n hx hb di_X7_0 rfl (lv_at hl 0 rfl) ?_
  refine W.objInit hx hb hown (hts _ iw_353) (hts _ iw_123) (hts _ iw_124) rfl (by rw [hml]; exact hl.1) rfl di_X7_1 (Nat.le_of_ble_eq_true rfl) (Nat.le_of_ble_eq_true rfl) ?_
  refine W.eq (g2 := F0 m 4 ls []) rfl ?_
  refine lv_aload_n hx hb di_X7_4 rfl (lv_at hl 0 rfl) ?_
  refine lv_bipush (v := 25) hx hb di_X7_5 (by decide) ?_
  refine va_newa (atype := .long) (a0 := (25, .inr (.inl (fun _ => 0)))) hx hb (hts _ iw_217) rfl hK hP hD hS hA (fun _ => rfl) (by decide) (by decide +kernel) (by decide +kernel) (Nat.le_of_ble_eq_true rfl) (Nat.le_of_ble_eq_true rfl) di_X7_7 (fun q7 cA H hK1 hP hD hS => ?_)
  obtain rfl := ac_long hK hK1
  have hP : va_P D vwCl [(h0, .inr (7, [.null, .null, .null, .null, .null, .null, .null, .null, .null, .long 0, .long 0, .int 0, .long 0, .long 0, .long 0, .long 0, .long 0])), (q7, .inl (cs 1, 25, .inr (.inl (fun _ => 0))))] H := hP
  have hD : va_D A [(h0, .inr (7, [.null, .null, .null, .null, .null, .null, .null, .null, .null, .long 0, .long 0, .int 0, .long 0, .long 0, .long 0, .long 0, .long 0])), (q7, .inl (cs 1, 25, .inr (.inl (fun _ => 0))))] := hD
  refine va_putF (D := D) (ci := 7) (v := .ref q7) (ty := .array .long) (C := RX7) (T := TX7) (N := 17) hx hb hts cl_7.2.1 tyX7 tyX7_ok nmX7 hown hK hP hD hS 0 rfl rfl 2 (by decide) (hts (.fieldLink RX7 11 "FlungFingers$Reply" "weight" "[J") iw_358) (fun _ h9 => h9) rfl hin rfl (by decide +kernel) rfl rfl (Nat.le_of_ble_eq_true rfl) di_X7_9 (fun H locs hP hD hS => ?_)
  have hP : va_P D vwCl [(h0, .inr (7, [.null, .null, .ref q7, .null, .null, .null, .null, .null, .null, .long 0, .long 0, .int 0, .long 0, .long 0, .long 0, .long 0, .long 0])), (q7, .inl (cs 1, 25, .inr (.inl (fun _ => 0))))] H := hP
  have hD : va_D A [(h0, .inr (7, [.null, .null, .ref q7, .null, .null, .null, .null, .null, .null, .long 0, .long 0, .int 0, .long 0, .long 0, .long 0, .long 0, .long 0])), (q7, .inl (cs 1, 25, .inr (.inl (fun _ => 0))))] := hD
  refine lv_aload_n hx hb di_X7_12 rfl (lv_at hl 0 rfl) ?_
  refine lv_bipush (v := 25) hx hb di_X7_13 (by decide) ?_
  refine va_newa (atype := .long) (a0 := (25, .inr (.inl (fun _ => 0)))) hx hb (hts _ iw_217) rfl hK hP hD hS hA (fun _ => rfl) (by decide) (by decide +kernel) (by decide +kernel) (Nat.le_of_ble_eq_true rfl) (Nat.le_of_ble_eq_true rfl) di_X7_15 (fun q15 cA H hK1 hP hD hS => ?_)
  obtain rfl := ac_long hK hK1
  have hP : va_P D vwCl [(h0, .inr (7, [.null, .null, .ref q7, .null, .null, .null, .null, .null, .null, .long 0, .long 0, .int 0, .long 0, .long 0, .long 0, .long 0, .long 0])), (q7, .inl (cs 1, 25, .inr (.inl (fun _ => 0)))), (q15, .inl (cs 1, 25, .inr (.inl (fun _ => 0))))] H := hP
  have hD : va_D A [(h0, .inr (7, [.null, .null, .ref q7, .null, .null, .null, .null, .null, .null, .long 0, .long 0, .int 0, .long 0, .long 0, .long 0, .long 0, .long 0])), (q7, .inl (cs 1, 25, .inr (.inl (fun _ => 0)))), (q15, .inl (cs 1, 25, .inr (.inl (fun _ => 0))))] := hD
  refine va_putF (D := D) (ci := 7) (v := .ref q15) (ty := .array .long) (C := RX7) (T := TX7) (N := 17) hx hb hts cl_7.2.1 tyX7 tyX7_ok nmX7 hown hK hP hD hS 0 rfl rfl 3 (by decide) (hts (.fieldLink RX7 17 "FlungFingers$Reply" "means" "[J") iw_359) (fun _ h9 => h9) rfl hin rfl (by decide +kernel) rfl rfl (Nat.le_of_ble_eq_true rfl) di_X7_17 (fun H locs hP hD hS => ?_)
  have hP : va_P D vwCl [(h0, .inr (7, [.null, .null, .ref q7, .ref q15, .null, .null, .null, .null, .null, .long 0, .long 0, .int 0, .long 0, .long 0, .long 0, .long 0, .long 0])), (q7, .inl (cs 1, 25, .inr (.inl (fun _ => 0)))), (q15, .inl (cs 1, 25, .inr (.inl (fun _ => 0))))] H := hP
  have hD : va_D A [(h0, .inr (7, [.null, .null, .ref q7, .ref q15, .null, .null, .null, .null, .null, .long 0, .long 0, .int 0, .long 0, .long 0, .long 0, .long 0, .long 0])), (q7, .inl (cs 1, 25, .inr (.inl (fun _ => 0)))), (q15, .inl (cs 1, 25, .inr (.inl (fun _ => 0))))] := hD
  refine lv_aload_n hx hb di_X7_20 rfl (lv_at hl 0 rfl) ?_
  refine lv_bipush (v := 25) hx hb di_X7_21 (by decide) ?_
  refine va_newa (atype := .long) (a0 := (25, .inr (.inl (fun _ => 0)))) hx hb (hts _ iw_217) rfl hK hP hD hS hA (fun _ => rfl) (by decide) (by decide +kernel) (by decide +kernel) (Nat.le_of_ble_eq_true rfl) (Nat.le_of_ble_eq_true rfl) di_X7_23 (fun q23 cA H hK1 hP hD hS => ?_)
  obtain rfl := ac_long hK hK1
  have hP : va_P D vwCl [(h0, .inr (7, [.null, .null, .ref q7, .ref q15, .null, .null, .null, .null, .null, .long 0, .long 0, .int 0, .long 0, .long 0, .long 0, .long 0, .long 0])), (q7, .inl (cs 1, 25, .inr (.inl (fun _ => 0)))), (q15, .inl (cs 1, 25, .inr (.inl (fun _ => 0)))), (q23, .inl (cs 1, 25, .inr (.inl (fun _ => 0))))] H := hP
  have hD : va_D A [(h0, .inr (7, [.null, .null, .ref q7, .ref q15, .null, .null, .null, .null, .null, .long 0, .long 0, .int 0, .long 0, .long 0, .long 0, .long 0, .long 0])), (q7, .inl (cs 1, 25, .inr (.inl (fun _ => 0)))), (q15, .inl (cs 1, 25, .inr (.inl (fun _ => 0)))), (q23, .inl (cs 1, 25, .inr (.inl (fun _ => 0))))] := hD
  refine va_putF (D := D) (ci := 7) (v := .ref q23) (ty := .array .long) (C := RX7) (T := TX7) (N := 17) hx hb hts cl_7.2.1 tyX7 tyX7_ok nmX7 hown hK hP hD hS 0 rfl rfl 4 (by decide) (hts (.fieldLink RX7 20 "FlungFingers$Reply" "earned" "[J") iw_360) (fun _ h9 => h9) rfl hin rfl (by decide +kernel) rfl rfl (Nat.le_of_ble_eq_true rfl) di_X7_25 (fun H locs hP hD hS => ?_)
  have hP : va_P D vwCl [(h0, .inr (7, [.null, .null, .ref q7, .ref q15, .ref q23, .null, .null, .null, .null, .long 0, .long 0, .int 0, .long 0, .long 0, .long 0, .long 0, .long 0])), (q7, .inl (cs 1, 25, .inr (.inl (fun _ => 0)))), (q15, .inl (cs 1, 25, .inr (.inl (fun _ => 0)))), (q23, .inl (cs 1, 25, .inr (.inl (fun _ => 0))))] H := hP
  have hD : va_D A [(h0, .inr (7, [.null, .null, .ref q7, .ref q15, .ref q23, .null, .null, .null, .null, .long 0, .long 0, .int 0, .long 0, .long 0, .long 0, .long 0, .long 0])), (q7, .inl (cs 1, 25, .inr (.inl (fun _ => 0)))), (q15, .inl (cs 1, 25, .inr (.inl (fun _ => 0)))), (q23, .inl (cs 1, 25, .inr (.inl (fun _ => 0))))] := hD
  refine lv_aload_n hx hb di_X7_28 rfl (lv_at hl 0 rfl) ?_
  refine va_new (ci := 1) (fs := [.null, .int 0]) (C := RX1) (T := TX1) (N := 2) hx hb hts cl_1.2.1 tyX1 tyX1_ok hown (hts (.classLink RX7 23 RX1) iw_354) (hts (.instantiable RX1 2) iw_225) (hts (.initialized RX1) iw_103) hK hP hD hS hA rfl (fun j hj => by rcases (show j = 0 ∨ j = 1 by omega) with rfl | rfl <;> rfl) (Nat.le_of_ble_eq_true rfl) (Nat.le_of_ble_eq_true rfl) di_X7_29 (fun q29 H hP hD hS => ?_)
  have hP : va_P D vwCl [(h0, .inr (7, [.null, .null, .ref q7, .ref q15, .ref q23, .null, .null, .null, .null, .long 0, .long 0, .int 0, .long 0, .long 0, .long 0, .long 0, .long 0])), (q7, .inl (cs 1, 25, .inr (.inl (fun _ => 0)))), (q15, .inl (cs 1, 25, .inr (.inl (fun _ => 0)))), (q23, .inl (cs 1, 25, .inr (.inl (fun _ => 0)))), (q29, .inr (1, [.null, .int 0]))] H := hP
  have hD : va_D A [(h0, .inr (7, [.null, .null, .ref q7, .ref q15, .ref q23, .null, .null, .null, .null, .long 0, .long 0, .int 0, .long 0, .long 0, .long 0, .long 0, .long 0])), (q7, .inl (cs 1, 25, .inr (.inl (fun _ => 0)))), (q15, .inl (cs 1, 25, .inr (.inl (fun _ => 0)))), (q23, .inl (cs 1, 25, .inr (.inl (fun _ => 0)))), (q29, .inr (1, [.null, .int 0]))] := hD
  refine lv_dup hx hb di_X7_32 rfl ?_
  have hPc := hP.sub (ws' := [(q29, .inr (1, [.null, .int 0]))]) [4] rfl
  have hDc := hD.sub (ws' := [(q29, .inr (1, [.null, .int 0]))]) [4] (by decide) rfl
  have hFc := va_free (wc := [(q29, .inr (1, [.null, .int 0]))]) hD hS hA [4] rfl
  refine va_callv (va_runIN (Ts := rx_tbl) (As := []) (rest := [.ref q29, .ref h0]) ⟨hx, hb, hml, hown, hts⟩ (CI_X1 l D cs q29  H.size) ⟨va_cnB 0 hts (rx_gin gI_X1) rfl rfl rfl (hN _ in_355) (hts _ iw_103) ⟨by decide +kernel, by decide +kernel, by decide +kernel⟩ ⟨Nat.le_of_ble_eq_true rfl, Nat.le_of_ble_eq_true rfl⟩, rfl, (hts _ iw_227)⟩ ⟨rx_Pc_blind, fun U hU hW => ⟨rfl, by rw [hU], by rw [hU]; exact hPc, va_K.moved hW.alike hK, hDc.weaken (fun _ _ _ _ => trivial), rx_N_warm hW hN⟩⟩ rfl rfl hl.1 rfl (lv_room (Nat.le_of_ble_eq_true rfl)) di_X7_33 ⟨Nat.le_of_ble_eq_true rfl, Nat.le_of_ble_eq_true rfl⟩) hS (fun q _ h => hFc q h) hFc (fun u33 t H1 locs ht hvm hw hB hz1 hk1 hS => ?_)
  obtain ⟨hP1, hD1⟩ := hB
  rw [ht] at hP1
  obtain ⟨hP, hD⟩ := va_join (wr := [(h0, .inr (7, [.null, .null, .ref q7, .ref q15, .ref q23, .null, .null, .null, .null, .long 0, .long 0, .int 0, .long 0, .long 0, .long 0, .long 0, .long 0])), (q7, .inl (cs 1, 25, .inr (.inl (fun _ => 0)))), (q15, .inl (cs 1, 25, .inr (.inl (fun _ => 0)))), (q23, .inl (cs 1, 25, .inr (.inl (fun _ => 0))))]) (w1 := [(q29, .inr (1, [.ref (u33 0), .int 0])), ((u33 0), .inl (cs 0, 16, .inl (fun _ => 0)))]) hP hD [4] [0, 1, 2, 3] rfl rfl (by decide) (by decide) hk1 hFc hP1 hD1
  generalize H1 = H at hP hS ⊢
  have hP : va_P D vwCl [(h0, .inr (7, [.null, .null, .ref q7, .ref q15, .ref q23, .null, .null, .null, .null, .long 0, .long 0, .int 0, .long 0, .long 0, .long 0, .long 0, .long 0])), (q7, .inl (cs 1, 25, .inr (.inl (fun _ => 0)))), (q15, .inl (cs 1, 25, .inr (.inl (fun _ => 0)))), (q23, .inl (cs 1, 25, .inr (.inl (fun _ => 0)))), (q29, .inr (1, [.ref (u33 0), .int 0])), ((u33 0), .inl (cs 0, 16, .inl (fun _ => 0)))] H := hP
  have hD : va_D A [(h0, .inr (7, [.null, .null, .ref q7, .ref q15, .ref q23, .null, .null, .null, .null, .long 0, .long 0, .int 0, .long 0, .long 0, .long 0, .long 0, .long 0])), (q7, .inl (cs 1, 25, .inr (.inl (fun _ => 0)))), (q15, .inl (cs 1, 25, .inr (.inl (fun _ => 0)))), (q23, .inl (cs 1, 25, .inr (.inl (fun _ => 0)))), (q29, .inr (1, [.ref (u33 0), .int 0])), ((u33 0), .inl (cs 0, 16, .inl (fun _ => 0)))] := hD
  refine va_putF (D := D) (ci := 7) (v := .ref q29) (ty := .object "FlungFingers$Big") (C := RX7) (T := TX7) (N := 17) hx hb hts cl_7.2.1 tyX7 tyX7_ok nmX7 hown hK hP hD hS 0 rfl rfl 5 (by decide) (hts (.fieldLink RX7 26 "FlungFingers$Reply" "one" "LFlungFingers$Big;") iw_361) (fun _ h9 => h9) rfl hin rfl (by decide +kernel) rfl rfl (Nat.le_of_ble_eq_true rfl) di_X7_36 (fun H locs hP hD hS => ?_)
  have hP : va_P D vwCl [(h0, .inr (7, [.null, .null, .ref q7, .ref q15, .ref q23, .ref q29, .null, .null, .null, .long 0, .long 0, .int 0, .long 0, .long 0, .long 0, .long 0, .long 0])), (q7, .inl (cs 1, 25, .inr (.inl (fun _ => 0)))), (q15, .inl (cs 1, 25, .inr (.inl (fun _ => 0)))), (q23, .inl (cs 1, 25, .inr (.inl (fun _ => 0)))), (q29, .inr (1, [.ref (u33 0), .int 0])), ((u33 0), .inl (cs 0, 16, .inl (fun _ => 0)))] H := hP
  have hD : va_D A [(h0, .inr (7, [.null, .null, .ref q7, .ref q15, .ref q23, .ref q29, .null, .null, .null, .long 0, .long 0, .int 0, .long 0, .long 0, .long 0, .long 0, .long 0])), (q7, .inl (cs 1, 25, .inr (.inl (fun _ => 0)))), (q15, .inl (cs 1, 25, .inr (.inl (fun _ => 0)))), (q23, .inl (cs 1, 25, .inr (.inl (fun _ => 0)))), (q29, .inr (1, [.ref (u33 0), .int 0])), ((u33 0), .inl (cs 0, 16, .inl (fun _ => 0)))] := hD
  refine lv_aload_n hx hb di_X7_39 rfl (lv_at hl 0 rfl) ?_
  refine va_new (ci := 1) (fs := [.null, .int 0]) (C := RX1) (T := TX1) (N := 2) hx hb hts cl_1.2.1 tyX1 tyX1_ok hown (hts (.classLink RX7 23 RX1) iw_354) (hts (.instantiable RX1 2) iw_225) (hts (.initialized RX1) iw_103) hK hP hD hS hA rfl (fun j hj => by rcases (show j = 0 ∨ j = 1 by omega) with rfl | rfl <;> rfl) (Nat.le_of_ble_eq_true rfl) (Nat.le_of_ble_eq_true rfl) di_X7_40 (fun q40 H hP hD hS => ?_)
  have hP : va_P D vwCl [(h0, .inr (7, [.null, .null, .ref q7, .ref q15, .ref q23, .ref q29, .null, .null, .null, .long 0, .long 0, .int 0, .long 0, .long 0, .long 0, .long 0, .long 0])), (q7, .inl (cs 1, 25, .inr (.inl (fun _ => 0)))), (q15, .inl (cs 1, 25, .inr (.inl (fun _ => 0)))), (q23, .inl (cs 1, 25, .inr (.inl (fun _ => 0)))), (q29, .inr (1, [.ref (u33 0), .int 0])), ((u33 0), .inl (cs 0, 16, .inl (fun _ => 0))), (q40, .inr (1, [.null, .int 0]))] H := hP
  have hD : va_D A [(h0, .inr (7, [.null, .null, .ref q7, .ref q15, .ref q23, .ref q29, .null, .null, .null, .long 0, .long 0, .int 0, .long 0, .long 0, .long 0, .long 0, .long 0])), (q7, .inl (cs 1, 25, .inr (.inl (fun _ => 0)))), (q15, .inl (cs 1, 25, .inr (.inl (fun _ => 0)))), (q23, .inl (cs 1, 25, .inr (.inl (fun _ => 0)))), (q29, .inr (1, [.ref (u33 0), .int 0])), ((u33 0), .inl (cs 0, 16, .inl (fun _ => 0))), (q40, .inr (1, [.null, .int 0]))] := hD
  refine lv_dup hx hb di_X7_43 rfl ?_
  have hPc := hP.sub (ws' := [(q40, .inr (1, [.null, .int 0]))]) [6] rfl
  have hDc := hD.sub (ws' := [(q40, .inr (1, [.null, .int 0]))]) [6] (by decide) rfl
  have hFc := va_free (wc := [(q40, .inr (1, [.null, .int 0]))]) hD hS hA [6] rfl
  refine va_callv (va_runIN (Ts := rx_tbl) (As := []) (rest := [.ref q40, .ref h0]) ⟨hx, hb, hml, hown, hts⟩ (CI_X1 l D cs q40  H.size) ⟨va_cnB 0 hts (rx_gin gI_X1) rfl rfl rfl (hN _ in_355) (hts _ iw_103) ⟨by decide +kernel, by decide +kernel, by decide +kernel⟩ ⟨Nat.le_of_ble_eq_true rfl, Nat.le_of_ble_eq_true rfl⟩, rfl, (hts _ iw_227)⟩ ⟨rx_Pc_blind, fun U hU hW => ⟨rfl, by rw [hU], by rw [hU]; exact hPc, va_K.moved hW.alike hK, hDc.weaken (fun _ _ _ _ => trivial), rx_N_warm hW hN⟩⟩ rfl rfl hl.1 rfl (lv_room (Nat.le_of_ble_eq_true rfl)) di_X7_44 ⟨Nat.le_of_ble_eq_true rfl, Nat.le_of_ble_eq_true rfl⟩) hS (fun q _ h => hFc q h) hFc (fun u44 t H1 locs ht hvm hw hB hz1 hk1 hS => ?_)
  obtain ⟨hP1, hD1⟩ := hB
  rw [ht] at hP1
  obtain ⟨hP, hD⟩ := va_join (wr := [(h0, .inr (7, [.null, .null, .ref q7, .ref q15, .ref q23, .ref q29, .null, .null, .null, .long 0, .long 0, .int 0, .long 0, .long 0, .long 0, .long 0, .long 0])), (q7, .inl (cs 1, 25, .inr (.inl (fun _ => 0)))), (q15, .inl (cs 1, 25, .inr (.inl (fun _ => 0)))), (q23, .inl (cs 1, 25, .inr (.inl (fun _ => 0)))), (q29, .inr (1, [.ref (u33 0), .int 0])), ((u33 0), .inl (cs 0, 16, .inl (fun _ => 0)))]) (w1 := [(q40, .inr (1, [.ref (u44 0), .int 0])), ((u44 0), .inl (cs 0, 16, .inl (fun _ => 0)))]) hP hD [6] [0, 1, 2, 3, 4, 5] rfl rfl (by decide) (by decide) hk1 hFc hP1 hD1
  generalize H1 = H at hP hS ⊢
  have hP : va_P D vwCl [(h0, .inr (7, [.null, .null, .ref q7, .ref q15, .ref q23, .ref q29, .null, .null, .null, .long 0, .long 0, .int 0, .long 0, .long 0, .long 0, .long 0, .long 0])), (q7, .inl (cs 1, 25, .inr (.inl (fun _ => 0)))), (q15, .inl (cs 1, 25, .inr (.inl (fun _ => 0)))), (q23, .inl (cs 1, 25, .inr (.inl (fun _ => 0)))), (q29, .inr (1, [.ref (u33 0), .int 0])), ((u33 0), .inl (cs 0, 16, .inl (fun _ => 0))), (q40, .inr (1, [.ref (u44 0), .int 0])), ((u44 0), .inl (cs 0, 16, .inl (fun _ => 0)))] H := hP
  have hD : va_D A [(h0, .inr (7, [.null, .null, .ref q7, .ref q15, .ref q23, .ref q29, .null, .null, .null, .long 0, .long 0, .int 0, .long 0, .long 0, .long 0, .long 0, .long 0])), (q7, .inl (cs 1, 25, .inr (.inl (fun _ => 0)))), (q15, .inl (cs 1, 25, .inr (.inl (fun _ => 0)))), (q23, .inl (cs 1, 25, .inr (.inl (fun _ => 0)))), (q29, .inr (1, [.ref (u33 0), .int 0])), ((u33 0), .inl (cs 0, 16, .inl (fun _ => 0))), (q40, .inr (1, [.ref (u44 0), .int 0])), ((u44 0), .inl (cs 0, 16, .inl (fun _ => 0)))] := hD
  refine va_putF (D := D) (ci := 7) (v := .ref q40) (ty := .object "FlungFingers$Big") (C := RX7) (T := TX7) (N := 17) hx hb hts cl_7.2.1 tyX7 tyX7_ok nmX7 hown hK hP hD hS 0 rfl rfl 6 (by decide) (hts (.fieldLink RX7 30 "FlungFingers$Reply" "two" "LFlungFingers$Big;") iw_362) (fun _ h9 => h9) rfl hin rfl (by decide +kernel) rfl rfl (Nat.le_of_ble_eq_true rfl) di_X7_47 (fun H locs hP hD hS => ?_)
  have hP : va_P D vwCl [(h0, .inr (7, [.null, .null, .ref q7, .ref q15, .ref q23, .ref q29, .ref q40, .null, .null, .long 0, .long 0, .int 0, .long 0, .long 0, .long 0, .long 0, .long 0])), (q7, .inl (cs 1, 25, .inr (.inl (fun _ => 0)))), (q15, .inl (cs 1, 25, .inr (.inl (fun _ => 0)))), (q23, .inl (cs 1, 25, .inr (.inl (fun _ => 0)))), (q29, .inr (1, [.ref (u33 0), .int 0])), ((u33 0), .inl (cs 0, 16, .inl (fun _ => 0))), (q40, .inr (1, [.ref (u44 0), .int 0])), ((u44 0), .inl (cs 0, 16, .inl (fun _ => 0)))] H := hP
  have hD : va_D A [(h0, .inr (7, [.null, .null, .ref q7, .ref q15, .ref q23, .ref q29, .ref q40, .null, .null, .long 0, .long 0, .int 0, .long 0, .long 0, .long 0, .long 0, .long 0])), (q7, .inl (cs 1, 25, .inr (.inl (fun _ => 0)))), (q15, .inl (cs 1, 25, .inr (.inl (fun _ => 0)))), (q23, .inl (cs 1, 25, .inr (.inl (fun _ => 0)))), (q29, .inr (1, [.ref (u33 0), .int 0])), ((u33 0), .inl (cs 0, 16, .inl (fun _ => 0))), (q40, .inr (1, [.ref (u44 0), .int 0])), ((u44 0), .inl (cs 0, 16, .inl (fun _ => 0)))] := hD
  refine lv_aload_n hx hb di_X7_50 rfl (lv_at hl 0 rfl) ?_
  refine va_new (ci := 1) (fs := [.null, .int 0]) (C := RX1) (T := TX1) (N := 2) hx hb hts cl_1.2.1 tyX1 tyX1_ok hown (hts (.classLink RX7 23 RX1) iw_354) (hts (.instantiable RX1 2) iw_225) (hts (.initialized RX1) iw_103) hK hP hD hS hA rfl (fun j hj => by rcases (show j = 0 ∨ j = 1 by omega) with rfl | rfl <;> rfl) (Nat.le_of_ble_eq_true rfl) (Nat.le_of_ble_eq_true rfl) di_X7_51 (fun q51 H hP hD hS => ?_)
  have hP : va_P D vwCl [(h0, .inr (7, [.null, .null, .ref q7, .ref q15, .ref q23, .ref q29, .ref q40, .null, .null, .long 0, .long 0, .int 0, .long 0, .long 0, .long 0, .long 0, .long 0])), (q7, .inl (cs 1, 25, .inr (.inl (fun _ => 0)))), (q15, .inl (cs 1, 25, .inr (.inl (fun _ => 0)))), (q23, .inl (cs 1, 25, .inr (.inl (fun _ => 0)))), (q29, .inr (1, [.ref (u33 0), .int 0])), ((u33 0), .inl (cs 0, 16, .inl (fun _ => 0))), (q40, .inr (1, [.ref (u44 0), .int 0])), ((u44 0), .inl (cs 0, 16, .inl (fun _ => 0))), (q51, .inr (1, [.null, .int 0]))] H := hP
  have hD : va_D A [(h0, .inr (7, [.null, .null, .ref q7, .ref q15, .ref q23, .ref q29, .ref q40, .null, .null, .long 0, .long 0, .int 0, .long 0, .long 0, .long 0, .long 0, .long 0])), (q7, .inl (cs 1, 25, .inr (.inl (fun _ => 0)))), (q15, .inl (cs 1, 25, .inr (.inl (fun _ => 0)))), (q23, .inl (cs 1, 25, .inr (.inl (fun _ => 0)))), (q29, .inr (1, [.ref (u33 0), .int 0])), ((u33 0), .inl (cs 0, 16, .inl (fun _ => 0))), (q40, .inr (1, [.ref (u44 0), .int 0])), ((u44 0), .inl (cs 0, 16, .inl (fun _ => 0))), (q51, .inr (1, [.null, .int 0]))] := hD
  refine lv_dup hx hb di_X7_54 rfl ?_
  have hPc := hP.sub (ws' := [(q51, .inr (1, [.null, .int 0]))]) [8] rfl
  have hDc := hD.sub (ws' := [(q51, .inr (1, [.null, .int 0]))]) [8] (by decide) rfl
  have hFc := va_free (wc := [(q51, .inr (1, [.null, .int 0]))]) hD hS hA [8] rfl
  refine va_callv (va_runIN (Ts := rx_tbl) (As := []) (rest := [.ref q51, .ref h0]) ⟨hx, hb, hml, hown, hts⟩ (CI_X1 l D cs q51  H.size) ⟨va_cnB 0 hts (rx_gin gI_X1) rfl rfl rfl (hN _ in_355) (hts _ iw_103) ⟨by decide +kernel, by decide +kernel, by decide +kernel⟩ ⟨Nat.le_of_ble_eq_true rfl, Nat.le_of_ble_eq_true rfl⟩, rfl, (hts _ iw_227)⟩ ⟨rx_Pc_blind, fun U hU hW => ⟨rfl, by rw [hU], by rw [hU]; exact hPc, va_K.moved hW.alike hK, hDc.weaken (fun _ _ _ _ => trivial), rx_N_warm hW hN⟩⟩ rfl rfl hl.1 rfl (lv_room (Nat.le_of_ble_eq_true rfl)) di_X7_55 ⟨Nat.le_of_ble_eq_true rfl, Nat.le_of_ble_eq_true rfl⟩) hS (fun q _ h => hFc q h) hFc (fun u55 t H1 locs ht hvm hw hB hz1 hk1 hS => ?_)
  obtain ⟨hP1, hD1⟩ := hB
  rw [ht] at hP1
  obtain ⟨hP, hD⟩ := va_join (wr := [(h0, .inr (7, [.null, .null, .ref q7, .ref q15, .ref q23, .ref q29, .ref q40, .null, .null, .long 0, .long 0, .int 0, .long 0, .long 0, .long 0, .long 0, .long 0])), (q7, .inl (cs 1, 25, .inr (.inl (fun _ => 0)))), (q15, .inl (cs 1, 25, .inr (.inl (fun _ => 0)))), (q23, .inl (cs 1, 25, .inr (.inl (fun _ => 0)))), (q29, .inr (1, [.ref (u33 0), .int 0])), ((u33 0), .inl (cs 0, 16, .inl (fun _ => 0))), (q40, .inr (1, [.ref (u44 0), .int 0])), ((u44 0), .inl (cs 0, 16, .inl (fun _ => 0)))]) (w1 := [(q51, .inr (1, [.ref (u55 0), .int 0])), ((u55 0), .inl (cs 0, 16, .inl (fun _ => 0)))]) hP hD [8] [0, 1, 2, 3, 4, 5, 6, 7] rfl rfl (by decide) (by decide) hk1 hFc hP1 hD1
  generalize H1 = H at hP hS ⊢
  have hP : va_P D vwCl [(h0, .inr (7, [.null, .null, .ref q7, .ref q15, .ref q23, .ref q29, .ref q40, .null, .null, .long 0, .long 0, .int 0, .long 0, .long 0, .long 0, .long 0, .long 0])), (q7, .inl (cs 1, 25, .inr (.inl (fun _ => 0)))), (q15, .inl (cs 1, 25, .inr (.inl (fun _ => 0)))), (q23, .inl (cs 1, 25, .inr (.inl (fun _ => 0)))), (q29, .inr (1, [.ref (u33 0), .int 0])), ((u33 0), .inl (cs 0, 16, .inl (fun _ => 0))), (q40, .inr (1, [.ref (u44 0), .int 0])), ((u44 0), .inl (cs 0, 16, .inl (fun _ => 0))), (q51, .inr (1, [.ref (u55 0), .int 0])), ((u55 0), .inl (cs 0, 16, .inl (fun _ => 0)))] H := hP
  have hD : va_D A [(h0, .inr (7, [.null, .null, .ref q7, .ref q15, .ref q23, .ref q29, .ref q40, .null, .null, .long 0, .long 0, .int 0, .long 0, .long 0, .long 0, .long 0, .long 0])), (q7, .inl (cs 1, 25, .inr (.inl (fun _ => 0)))), (q15, .inl (cs 1, 25, .inr (.inl (fun _ => 0)))), (q23, .inl (cs 1, 25, .inr (.inl (fun _ => 0)))), (q29, .inr (1, [.ref (u33 0), .int 0])), ((u33 0), .inl (cs 0, 16, .inl (fun _ => 0))), (q40, .inr (1, [.ref (u44 0), .int 0])), ((u44 0), .inl (cs 0, 16, .inl (fun _ => 0))), (q51, .inr (1, [.ref (u55 0), .int 0])), ((u55 0), .inl (cs 0, 16, .inl (fun _ => 0)))] := hD
  refine va_putF (D := D) (ci := 7) (v := .ref q51) (ty := .object "FlungFingers$Big") (C := RX7) (T := TX7) (N := 17) hx hb hts cl_7.2.1 tyX7 tyX7_ok nmX7 hown hK hP hD hS 0 rfl rfl 7 (by decide) (hts (.fieldLink RX7 33 "FlungFingers$Reply" "mine" "LFlungFingers$Big;") iw_363) (fun _ h9 => h9) rfl hin rfl (by decide +kernel) rfl rfl (Nat.le_of_ble_eq_true rfl) di_X7_58 (fun H locs hP hD hS => ?_)
  have hP : va_P D vwCl [(h0, .inr (7, [.null, .null, .ref q7, .ref q15, .ref q23, .ref q29, .ref q40, .ref q51, .null, .long 0, .long 0, .int 0, .long 0, .long 0, .long 0, .long 0, .long 0])), (q7, .inl (cs 1, 25, .inr (.inl (fun _ => 0)))), (q15, .inl (cs 1, 25, .inr (.inl (fun _ => 0)))), (q23, .inl (cs 1, 25, .inr (.inl (fun _ => 0)))), (q29, .inr (1, [.ref (u33 0), .int 0])), ((u33 0), .inl (cs 0, 16, .inl (fun _ => 0))), (q40, .inr (1, [.ref (u44 0), .int 0])), ((u44 0), .inl (cs 0, 16, .inl (fun _ => 0))), (q51, .inr (1, [.ref (u55 0), .int 0])), ((u55 0), .inl (cs 0, 16, .inl (fun _ => 0)))] H := hP
  have hD : va_D A [(h0, .inr (7, [.null, .null, .ref q7, .ref q15, .ref q23, .ref q29, .ref q40, .ref q51, .null, .long 0, .long 0, .int 0, .long 0, .long 0, .long 0, .long 0, .long 0])), (q7, .inl (cs 1, 25, .inr (.inl (fun _ => 0)))), (q15, .inl (cs 1, 25, .inr (.inl (fun _ => 0)))), (q23, .inl (cs 1, 25, .inr (.inl (fun _ => 0)))), (q29, .inr (1, [.ref (u33 0), .int 0])), ((u33 0), .inl (cs 0, 16, .inl (fun _ => 0))), (q40, .inr (1, [.ref (u44 0), .int 0])), ((u44 0), .inl (cs 0, 16, .inl (fun _ => 0))), (q51, .inr (1, [.ref (u55 0), .int 0])), ((u55 0), .inl (cs 0, 16, .inl (fun _ => 0)))] := hD
  refine lv_aload_n hx hb di_X7_61 rfl (lv_at hl 0 rfl) ?_
  refine va_new (ci := 1) (fs := [.null, .int 0]) (C := RX1) (T := TX1) (N := 2) hx hb hts cl_1.2.1 tyX1 tyX1_ok hown (hts (.classLink RX7 23 RX1) iw_354) (hts (.instantiable RX1 2) iw_225) (hts (.initialized RX1) iw_103) hK hP hD hS hA rfl (fun j hj => by rcases (show j = 0 ∨ j = 1 by omega) with rfl | rfl <;> rfl) (Nat.le_of_ble_eq_true rfl) (Nat.le_of_ble_eq_true rfl) di_X7_62 (fun q62 H hP hD hS => ?_)
  have hP : va_P D vwCl [(h0, .inr (7, [.null, .null, .ref q7, .ref q15, .ref q23, .ref q29, .ref q40, .ref q51, .null, .long 0, .long 0, .int 0, .long 0, .long 0, .long 0, .long 0, .long 0])), (q7, .inl (cs 1, 25, .inr (.inl (fun _ => 0)))), (q15, .inl (cs 1, 25, .inr (.inl (fun _ => 0)))), (q23, .inl (cs 1, 25, .inr (.inl (fun _ => 0)))), (q29, .inr (1, [.ref (u33 0), .int 0])), ((u33 0), .inl (cs 0, 16, .inl (fun _ => 0))), (q40, .inr (1, [.ref (u44 0), .int 0])), ((u44 0), .inl (cs 0, 16, .inl (fun _ => 0))), (q51, .inr (1, [.ref (u55 0), .int 0])), ((u55 0), .inl (cs 0, 16, .inl (fun _ => 0))), (q62, .inr (1, [.null, .int 0]))] H := hP
  have hD : va_D A [(h0, .inr (7, [.null, .null, .ref q7, .ref q15, .ref q23, .ref q29, .ref q40, .ref q51, .null, .long 0, .long 0, .int 0, .long 0, .long 0, .long 0, .long 0, .long 0])), (q7, .inl (cs 1, 25, .inr (.inl (fun _ => 0)))), (q15, .inl (cs 1, 25, .inr (.inl (fun _ => 0)))), (q23, .inl (cs 1, 25, .inr (.inl (fun _ => 0)))), (q29, .inr (1, [.ref (u33 0), .int 0])), ((u33 0), .inl (cs 0, 16, .inl (fun _ => 0))), (q40, .inr (1, [.ref (u44 0), .int 0])), ((u44 0), .inl (cs 0, 16, .inl (fun _ => 0))), (q51, .inr (1, [.ref (u55 0), .int 0])), ((u55 0), .inl (cs 0, 16, .inl (fun _ => 0))), (q62, .inr (1, [.null, .int 0]))] := hD
  refine lv_dup hx hb di_X7_65 rfl ?_
  have hPc := hP.sub (ws' := [(q62, .inr (1, [.null, .int 0]))]) [10] rfl
  have hDc := hD.sub (ws' := [(q62, .inr (1, [.null, .int 0]))]) [10] (by decide) rfl
  have hFc := va_free (wc := [(q62, .inr (1, [.null, .int 0]))]) hD hS hA [10] rfl
  refine va_callv (va_runIN (Ts := rx_tbl) (As := []) (rest := [.ref q62, .ref h0]) ⟨hx, hb, hml, hown, hts⟩ (CI_X1 l D cs q62  H.size) ⟨va_cnB 0 hts (rx_gin gI_X1) rfl rfl rfl (hN _ in_355) (hts _ iw_103) ⟨by decide +kernel, by decide +kernel, by decide +kernel⟩ ⟨Nat.le_of_ble_eq_true rfl, Nat.le_of_ble_eq_true rfl⟩, rfl, (hts _ iw_227)⟩ ⟨rx_Pc_blind, fun U hU hW => ⟨rfl, by rw [hU], by rw [hU]; exact hPc, va_K.moved hW.alike hK, hDc.weaken (fun _ _ _ _ => trivial), rx_N_warm hW hN⟩⟩ rfl rfl hl.1 rfl (lv_room (Nat.le_of_ble_eq_true rfl)) di_X7_66 ⟨Nat.le_of_ble_eq_true rfl, Nat.le_of_ble_eq_true rfl⟩) hS (fun q _ h => hFc q h) hFc (fun u66 t H1 locs ht hvm hw hB hz1 hk1 hS => ?_)
  obtain ⟨hP1, hD1⟩ := hB
  rw [ht] at hP1
  obtain ⟨hP, hD⟩ := va_join (wr := [(h0, .inr (7, [.null, .null, .ref q7, .ref q15, .ref q23, .ref q29, .ref q40, .ref q51, .null, .long 0, .long 0, .int 0, .long 0, .long 0, .long 0, .long 0, .long 0])), (q7, .inl (cs 1, 25, .inr (.inl (fun _ => 0)))), (q15, .inl (cs 1, 25, .inr (.inl (fun _ => 0)))), (q23, .inl (cs 1, 25, .inr (.inl (fun _ => 0)))), (q29, .inr (1, [.ref (u33 0), .int 0])), ((u33 0), .inl (cs 0, 16, .inl (fun _ => 0))), (q40, .inr (1, [.ref (u44 0), .int 0])), ((u44 0), .inl (cs 0, 16, .inl (fun _ => 0))), (q51, .inr (1, [.ref (u55 0), .int 0])), ((u55 0), .inl (cs 0, 16, .inl (fun _ => 0)))]) (w1 := [(q62, .inr (1, [.ref (u66 0), .int 0])), ((u66 0), .inl (cs 0, 16, .inl (fun _ => 0)))]) hP hD [10] [0, 1, 2, 3, 4, 5, 6, 7, 8, 9] rfl rfl (by decide) (by decide) hk1 hFc hP1 hD1
  generalize H1 = H at hP hS ⊢
  have hP : va_P D vwCl [(h0, .inr (7, [.null, .null, .ref q7, .ref q15, .ref q23, .ref q29, .ref q40, .ref q51, .null, .long 0, .long 0, .int 0, .long 0, .long 0, .long 0, .long 0, .long 0])), (q7, .inl (cs 1, 25, .inr (.inl (fun _ => 0)))), (q15, .inl (cs 1, 25, .inr (.inl (fun _ => 0)))), (q23, .inl (cs 1, 25, .inr (.inl (fun _ => 0)))), (q29, .inr (1, [.ref (u33 0), .int 0])), ((u33 0), .inl (cs 0, 16, .inl (fun _ => 0))), (q40, .inr (1, [.ref (u44 0), .int 0])), ((u44 0), .inl (cs 0, 16, .inl (fun _ => 0))), (q51, .inr (1, [.ref (u55 0), .int 0])), ((u55 0), .inl (cs 0, 16, .inl (fun _ => 0))), (q62, .inr (1, [.ref (u66 0), .int 0])), ((u66 0), .inl (cs 0, 16, .inl (fun _ => 0)))] H := hP
  have hD : va_D A [(h0, .inr (7, [.null, .null, .ref q7, .ref q15, .ref q23, .ref q29, .ref q40, .ref q51, .null, .long 0, .long 0, .int 0, .long 0, .long 0, .long 0, .long 0, .long 0])), (q7, .inl (cs 1, 25, .inr (.inl (fun _ => 0)))), (q15, .inl (cs 1, 25, .inr (.inl (fun _ => 0)))), (q23, .inl (cs 1, 25, .inr (.inl (fun _ => 0)))), (q29, .inr (1, [.ref (u33 0), .int 0])), ((u33 0), .inl (cs 0, 16, .inl (fun _ => 0))), (q40, .inr (1, [.ref (u44 0), .int 0])), ((u44 0), .inl (cs 0, 16, .inl (fun _ => 0))), (q51, .inr (1, [.ref (u55 0), .int 0])), ((u55 0), .inl (cs 0, 16, .inl (fun _ => 0))), (q62, .inr (1, [.ref (u66 0), .int 0])), ((u66 0), .inl (cs 0, 16, .inl (fun _ => 0)))] := hD
  refine va_putF (D := D) (ci := 7) (v := .ref q62) (ty := .object "FlungFingers$Big") (C := RX7) (T := TX7) (N := 17) hx hb hts cl_7.2.1 tyX7 tyX7_ok nmX7 hown hK hP hD hS 0 rfl rfl 8 (by decide) (hts (.fieldLink RX7 36 "FlungFingers$Reply" "other" "LFlungFingers$Big;") iw_364) (fun _ h9 => h9) rfl hin rfl (by decide +kernel) rfl rfl (Nat.le_of_ble_eq_true rfl) di_X7_69 (fun H locs hP hD hS => ?_)
  have hP : va_P D vwCl [(h0, .inr (7, [.null, .null, .ref q7, .ref q15, .ref q23, .ref q29, .ref q40, .ref q51, .ref q62, .long 0, .long 0, .int 0, .long 0, .long 0, .long 0, .long 0, .long 0])), (q7, .inl (cs 1, 25, .inr (.inl (fun _ => 0)))), (q15, .inl (cs 1, 25, .inr (.inl (fun _ => 0)))), (q23, .inl (cs 1, 25, .inr (.inl (fun _ => 0)))), (q29, .inr (1, [.ref (u33 0), .int 0])), ((u33 0), .inl (cs 0, 16, .inl (fun _ => 0))), (q40, .inr (1, [.ref (u44 0), .int 0])), ((u44 0), .inl (cs 0, 16, .inl (fun _ => 0))), (q51, .inr (1, [.ref (u55 0), .int 0])), ((u55 0), .inl (cs 0, 16, .inl (fun _ => 0))), (q62, .inr (1, [.ref (u66 0), .int 0])), ((u66 0), .inl (cs 0, 16, .inl (fun _ => 0)))] H := hP
  have hD : va_D A [(h0, .inr (7, [.null, .null, .ref q7, .ref q15, .ref q23, .ref q29, .ref q40, .ref q51, .ref q62, .long 0, .long 0, .int 0, .long 0, .long 0, .long 0, .long 0, .long 0])), (q7, .inl (cs 1, 25, .inr (.inl (fun _ => 0)))), (q15, .inl (cs 1, 25, .inr (.inl (fun _ => 0)))), (q23, .inl (cs 1, 25, .inr (.inl (fun _ => 0)))), (q29, .inr (1, [.ref (u33 0), .int 0])), ((u33 0), .inl (cs 0, 16, .inl (fun _ => 0))), (q40, .inr (1, [.ref (u44 0), .int 0])), ((u44 0), .inl (cs 0, 16, .inl (fun _ => 0))), (q51, .inr (1, [.ref (u55 0), .int 0])), ((u55 0), .inl (cs 0, 16, .inl (fun _ => 0))), (q62, .inr (1, [.ref (u66 0), .int 0])), ((u66 0), .inl (cs 0, 16, .inl (fun _ => 0)))] := hD
  refine lv_aload_n hx hb di_X7_72 rfl (lv_at hl 0 rfl) ?_
  refine lv_iconst (v := -1) hx hb di_X7_73 (by decide) ?_
  refine va_put (D := D) (ci := 7) (v := .int (-1)) (ty := .int) (C := RX7) (T := TX7) (N := 17) hx hb hts cl_7.2.1 tyX7 tyX7_ok nmX7 hown hK hP hD hS 0 rfl rfl 11 (by decide) (hts (.fieldLink RX7 39 "FlungFingers$Reply" "best" "I") iw_367) (fun _ h9 => h9) rfl (by decide +kernel) rfl rfl (Nat.le_of_ble_eq_true rfl) di_X7_74 (fun H locs hP hD hS => ?_)
  have hP : va_P D vwCl [(h0, .inr (7, [.null, .null, .ref q7, .ref q15, .ref q23, .ref q29, .ref q40, .ref q51, .ref q62, .long 0, .long 0, .int (-1), .long 0, .long 0, .long 0, .long 0, .long 0])), (q7, .inl (cs 1, 25, .inr (.inl (fun _ => 0)))), (q15, .inl (cs 1, 25, .inr (.inl (fun _ => 0)))), (q23, .inl (cs 1, 25, .inr (.inl (fun _ => 0)))), (q29, .inr (1, [.ref (u33 0), .int 0])), ((u33 0), .inl (cs 0, 16, .inl (fun _ => 0))), (q40, .inr (1, [.ref (u44 0), .int 0])), ((u44 0), .inl (cs 0, 16, .inl (fun _ => 0))), (q51, .inr (1, [.ref (u55 0), .int 0])), ((u55 0), .inl (cs 0, 16, .inl (fun _ => 0))), (q62, .inr (1, [.ref (u66 0), .int 0])), ((u66 0), .inl (cs 0, 16, .inl (fun _ => 0)))] H := hP
  have hD : va_D A [(h0, .inr (7, [.null, .null, .ref q7, .ref q15, .ref q23, .ref q29, .ref q40, .ref q51, .ref q62, .long 0, .long 0, .int (-1), .long 0, .long 0, .long 0, .long 0, .long 0])), (q7, .inl (cs 1, 25, .inr (.inl (fun _ => 0)))), (q15, .inl (cs 1, 25, .inr (.inl (fun _ => 0)))), (q23, .inl (cs 1, 25, .inr (.inl (fun _ => 0)))), (q29, .inr (1, [.ref (u33 0), .int 0])), ((u33 0), .inl (cs 0, 16, .inl (fun _ => 0))), (q40, .inr (1, [.ref (u44 0), .int 0])), ((u44 0), .inl (cs 0, 16, .inl (fun _ => 0))), (q51, .inr (1, [.ref (u55 0), .int 0])), ((u55 0), .inl (cs 0, 16, .inl (fun _ => 0))), (q62, .inr (1, [.ref (u66 0), .int 0])), ((u66 0), .inl (cs 0, 16, .inl (fun _ => 0)))] := hD
  refine lv_aload_n hx hb di_X7_77 rfl (lv_at hl 0 rfl) ?_
  refine lv_lconst (v := 1) hx hb di_X7_78 (by decide) ?_
  refine va_put (D := D) (ci := 7) (v := .long 1) (ty := .long) (C := RX7) (T := TX7) (N := 17) hx hb hts cl_7.2.1 tyX7 tyX7_ok nmX7 hown hK hP hD hS 0 rfl rfl 14 (by decide) (hts (.fieldLink RX7 43 "FlungFingers$Reply" "newLow" "J") iw_370) (fun _ h9 => h9) rfl (by decide +kernel) rfl rfl (Nat.le_of_ble_eq_true rfl) di_X7_79 (fun H locs hP hD hS => ?_)
  have hP : va_P D vwCl [(h0, .inr (7, [.null, .null, .ref q7, .ref q15, .ref q23, .ref q29, .ref q40, .ref q51, .ref q62, .long 0, .long 0, .int (-1), .long 0, .long 0, .long 1, .long 0, .long 0])), (q7, .inl (cs 1, 25, .inr (.inl (fun _ => 0)))), (q15, .inl (cs 1, 25, .inr (.inl (fun _ => 0)))), (q23, .inl (cs 1, 25, .inr (.inl (fun _ => 0)))), (q29, .inr (1, [.ref (u33 0), .int 0])), ((u33 0), .inl (cs 0, 16, .inl (fun _ => 0))), (q40, .inr (1, [.ref (u44 0), .int 0])), ((u44 0), .inl (cs 0, 16, .inl (fun _ => 0))), (q51, .inr (1, [.ref (u55 0), .int 0])), ((u55 0), .inl (cs 0, 16, .inl (fun _ => 0))), (q62, .inr (1, [.ref (u66 0), .int 0])), ((u66 0), .inl (cs 0, 16, .inl (fun _ => 0)))] H := hP
  have hD : va_D A [(h0, .inr (7, [.null, .null, .ref q7, .ref q15, .ref q23, .ref q29, .ref q40, .ref q51, .ref q62, .long 0, .long 0, .int (-1), .long 0, .long 0, .long 1, .long 0, .long 0])), (q7, .inl (cs 1, 25, .inr (.inl (fun _ => 0)))), (q15, .inl (cs 1, 25, .inr (.inl (fun _ => 0)))), (q23, .inl (cs 1, 25, .inr (.inl (fun _ => 0)))), (q29, .inr (1, [.ref (u33 0), .int 0])), ((u33 0), .inl (cs 0, 16, .inl (fun _ => 0))), (q40, .inr (1, [.ref (u44 0), .int 0])), ((u44 0), .inl (cs 0, 16, .inl (fun _ => 0))), (q51, .inr (1, [.ref (u55 0), .int 0])), ((u55 0), .inl (cs 0, 16, .inl (fun _ => 0))), (q62, .inr (1, [.ref (u66 0), .int 0])), ((u66 0), .inl (cs 0, 16, .inl (fun _ => 0)))] := hD
  refine lv_aload_n hx hb di_X7_82 rfl (lv_at hl 0 rfl) ?_
  refine lv_lconst (v := 1) hx hb di_X7_83 (by decide) ?_
  refine va_put (D := D) (ci := 7) (v := .long 1) (ty := .long) (C := RX7) (T := TX7) (N := 17) hx hb hts cl_7.2.1 tyX7 tyX7_ok nmX7 hown hK hP hD hS 0 rfl rfl 16 (by decide) (hts (.fieldLink RX7 47 "FlungFingers$Reply" "low" "J") iw_373) (fun _ h9 => h9) rfl (by decide +kernel) rfl rfl (Nat.le_of_ble_eq_true rfl) di_X7_84 (fun H locs hP hD hS => ?_)
  have hP : va_P D vwCl [(h0, .inr (7, [.null, .null, .ref q7, .ref q15, .ref q23, .ref q29, .ref q40, .ref q51, .ref q62, .long 0, .long 0, .int (-1), .long 0, .long 0, .long 1, .long 0, .long 1])), (q7, .inl (cs 1, 25, .inr (.inl (fun _ => 0)))), (q15, .inl (cs 1, 25, .inr (.inl (fun _ => 0)))), (q23, .inl (cs 1, 25, .inr (.inl (fun _ => 0)))), (q29, .inr (1, [.ref (u33 0), .int 0])), ((u33 0), .inl (cs 0, 16, .inl (fun _ => 0))), (q40, .inr (1, [.ref (u44 0), .int 0])), ((u44 0), .inl (cs 0, 16, .inl (fun _ => 0))), (q51, .inr (1, [.ref (u55 0), .int 0])), ((u55 0), .inl (cs 0, 16, .inl (fun _ => 0))), (q62, .inr (1, [.ref (u66 0), .int 0])), ((u66 0), .inl (cs 0, 16, .inl (fun _ => 0)))] H := hP
  have hD : va_D A [(h0, .inr (7, [.null, .null, .ref q7, .ref q15, .ref q23, .ref q29, .ref q40, .ref q51, .ref q62, .long 0, .long 0, .int (-1), .long 0, .long 0, .long 1, .long 0, .long 1])), (q7, .inl (cs 1, 25, .inr (.inl (fun _ => 0)))), (q15, .inl (cs 1, 25, .inr (.inl (fun _ => 0)))), (q23, .inl (cs 1, 25, .inr (.inl (fun _ => 0)))), (q29, .inr (1, [.ref (u33 0), .int 0])), ((u33 0), .inl (cs 0, 16, .inl (fun _ => 0))), (q40, .inr (1, [.ref (u44 0), .int 0])), ((u44 0), .inl (cs 0, 16, .inl (fun _ => 0))), (q51, .inr (1, [.ref (u55 0), .int 0])), ((u55 0), .inl (cs 0, 16, .inl (fun _ => 0))), (q62, .inr (1, [.ref (u66 0), .int 0])), ((u66 0), .inl (cs 0, 16, .inl (fun _ => 0)))] := hD
  refine lv_aload_n hx hb di_X7_87 rfl (lv_at hl 0 rfl) ?_
  refine lv_aload_n hx hb di_X7_88 rfl (lv_at hl 1 rfl) ?_
  refine va_putF (D := D) (ci := 7) (v := .ref a1) (ty := .object "FlungFingers$Rule") (C := RX7) (T := TX7) (N := 17) hx hb hts cl_7.2.1 tyX7 tyX7_ok nmX7 hown hK hP hD hS 0 rfl rfl 0 (by decide) (hts (.fieldLink RX7 50 "FlungFingers$Reply" "law" "LFlungFingers$Rule;") iw_356) (fun _ h9 => h9) rfl hin rfl (by decide +kernel) rfl rfl (Nat.le_of_ble_eq_true rfl) di_X7_89 (fun H locs hP hD hS => ?_)
  have hP : va_P D vwCl [(h0, .inr (7, [.ref a1, .null, .ref q7, .ref q15, .ref q23, .ref q29, .ref q40, .ref q51, .ref q62, .long 0, .long 0, .int (-1), .long 0, .long 0, .long 1, .long 0, .long 1])), (q7, .inl (cs 1, 25, .inr (.inl (fun _ => 0)))), (q15, .inl (cs 1, 25, .inr (.inl (fun _ => 0)))), (q23, .inl (cs 1, 25, .inr (.inl (fun _ => 0)))), (q29, .inr (1, [.ref (u33 0), .int 0])), ((u33 0), .inl (cs 0, 16, .inl (fun _ => 0))), (q40, .inr (1, [.ref (u44 0), .int 0])), ((u44 0), .inl (cs 0, 16, .inl (fun _ => 0))), (q51, .inr (1, [.ref (u55 0), .int 0])), ((u55 0), .inl (cs 0, 16, .inl (fun _ => 0))), (q62, .inr (1, [.ref (u66 0), .int 0])), ((u66 0), .inl (cs 0, 16, .inl (fun _ => 0)))] H := hP
  have hD : va_D A [(h0, .inr (7, [.ref a1, .null, .ref q7, .ref q15, .ref q23, .ref q29, .ref q40, .ref q51, .ref q62, .long 0, .long 0, .int (-1), .long 0, .long 0, .long 1, .long 0, .long 1])), (q7, .inl (cs 1, 25, .inr (.inl (fun _ => 0)))), (q15, .inl (cs 1, 25, .inr (.inl (fun _ => 0)))), (q23, .inl (cs 1, 25, .inr (.inl (fun _ => 0)))), (q29, .inr (1, [.ref (u33 0), .int 0])), ((u33 0), .inl (cs 0, 16, .inl (fun _ => 0))), (q40, .inr (1, [.ref (u44 0), .int 0])), ((u44 0), .inl (cs 0, 16, .inl (fun _ => 0))), (q51, .inr (1, [.ref (u55 0), .int 0])), ((u55 0), .inl (cs 0, 16, .inl (fun _ => 0))), (q62, .inr (1, [.ref (u66 0), .int 0])), ((u66 0), .inl (cs 0, 16, .inl (fun _ => 0)))] := hD
  refine lv_aload_n hx hb di_X7_92 rfl (lv_at hl 0 rfl) ?_
  refine lv_aload_n hx hb di_X7_93 rfl (lv_at hl 2 rfl) ?_
  refine va_putF (D := D) (ci := 7) (v := .ref a2) (ty := .object "FlungFingers$Game") (C := RX7) (T := TX7) (N := 17) hx hb hts cl_7.2.1 tyX7 tyX7_ok nmX7 hown hK hP hD hS 0 rfl rfl 1 (by decide) (hts (.fieldLink RX7 54 "FlungFingers$Reply" "game" "LFlungFingers$Game;") iw_357) (fun _ h9 => h9) rfl hin rfl (by decide +kernel) rfl rfl (Nat.le_of_ble_eq_true rfl) di_X7_94 (fun H locs hP hD hS => ?_)
  have hP : va_P D vwCl [(h0, .inr (7, [.ref a1, .ref a2, .ref q7, .ref q15, .ref q23, .ref q29, .ref q40, .ref q51, .ref q62, .long 0, .long 0, .int (-1), .long 0, .long 0, .long 1, .long 0, .long 1])), (q7, .inl (cs 1, 25, .inr (.inl (fun _ => 0)))), (q15, .inl (cs 1, 25, .inr (.inl (fun _ => 0)))), (q23, .inl (cs 1, 25, .inr (.inl (fun _ => 0)))), (q29, .inr (1, [.ref (u33 0), .int 0])), ((u33 0), .inl (cs 0, 16, .inl (fun _ => 0))), (q40, .inr (1, [.ref (u44 0), .int 0])), ((u44 0), .inl (cs 0, 16, .inl (fun _ => 0))), (q51, .inr (1, [.ref (u55 0), .int 0])), ((u55 0), .inl (cs 0, 16, .inl (fun _ => 0))), (q62, .inr (1, [.ref (u66 0), .int 0])), ((u66 0), .inl (cs 0, 16, .inl (fun _ => 0)))] H := hP
  have hD : va_D A [(h0, .inr (7, [.ref a1, .ref a2, .ref q7, .ref q15, .ref q23, .ref q29, .ref q40, .ref q51, .ref q62, .long 0, .long 0, .int (-1), .long 0, .long 0, .long 1, .long 0, .long 1])), (q7, .inl (cs 1, 25, .inr (.inl (fun _ => 0)))), (q15, .inl (cs 1, 25, .inr (.inl (fun _ => 0)))), (q23, .inl (cs 1, 25, .inr (.inl (fun _ => 0)))), (q29, .inr (1, [.ref (u33 0), .int 0])), ((u33 0), .inl (cs 0, 16, .inl (fun _ => 0))), (q40, .inr (1, [.ref (u44 0), .int 0])), ((u44 0), .inl (cs 0, 16, .inl (fun _ => 0))), (q51, .inr (1, [.ref (u55 0), .int 0])), ((u55 0), .inl (cs 0, 16, .inl (fun _ => 0))), (q62, .inr (1, [.ref (u66 0), .int 0])), ((u66 0), .inl (cs 0, 16, .inl (fun _ => 0)))] := hD
  refine W.widen (k := 11) (n := 147) (Nat.le_of_ble_eq_true rfl) (Nat.le_of_ble_eq_true rfl) ?_
  exact W.vret hx hb hr (fun t ht hW => ⟨⟨(fun j => ([q7, q15, q23, q29, (u33 0), q40, (u44 0), q51, (u55 0), q62, (u66 0)] : List Nat).getD j 0), rfl, trivial, by rw [ht]; exact hP, hD⟩, hS.F ht⟩) hS.2.2 di_X7_97
theorem di_X2_0 : decode cX2_init 0 = .ok (.aload_n 0, 1) := by decide +kernel
theorem di_X2_1 : decode cX2_init 1 = .ok (.invokespecial 1, 3) := by decide +kernel
theorem di_X2_4 : decode cX2_init 4 = .ok (.aload_n 0, 1) := by decide +kernel
theorem di_X2_5 : decode cX2_init 5 = .ok (.new 7, 3) := by decide +kernel
theorem di_X2_8 : decode cX2_init 8 = .ok (.dup, 1) := by decide +kernel
theorem di_X2_9 : decode cX2_init 9 = .ok (.invokespecial 9, 3) := by decide +kernel
theorem di_X2_12 : decode cX2_init 12 = .ok (.putfield 10, 3) := by decide +kernel
theorem di_X2_15 : decode cX2_init 15 = .ok (.aload_n 0, 1) := by decide +kernel
theorem di_X2_16 : decode cX2_init 16 = .ok (.new 7, 3) := by decide +kernel
theorem di_X2_19 : decode cX2_init 19 = .ok (.dup, 1) := by decide +kernel
theorem di_X2_20 : decode cX2_init 20 = .ok (.invokespecial 9, 3) := by decide +kernel
theorem di_X2_23 : decode cX2_init 23 = .ok (.putfield 16, 3) := by decide +kernel
theorem di_X2_26 : decode cX2_init 26 = .ok (.aload_n 0, 1) := by decide +kernel
theorem di_X2_27 : decode cX2_init 27 = .ok (.new 7, 3) := by decide +kernel
theorem di_X2_30 : decode cX2_init 30 = .ok (.dup, 1) := by decide +kernel
theorem di_X2_31 : decode cX2_init 31 = .ok (.invokespecial 9, 3) := by decide +kernel
theorem di_X2_34 : decode cX2_init 34 = .ok (.putfield 19, 3) := by decide +kernel
theorem di_X2_37 : decode cX2_init 37 = .ok (.aload_n 0, 1) := by decide +kernel
theorem di_X2_38 : decode cX2_init 38 = .ok (.new 7, 3) := by decide +kernel
theorem di_X2_41 : decode cX2_init 41 = .ok (.dup, 1) := by decide +kernel
theorem di_X2_42 : decode cX2_init 42 = .ok (.invokespecial 9, 3) := by decide +kernel
theorem di_X2_45 : decode cX2_init 45 = .ok (.putfield 22, 3) := by decide +kernel
theorem di_X2_48 : decode cX2_init 48 = .ok (.aload_n 0, 1) := by decide +kernel
theorem di_X2_49 : decode cX2_init 49 = .ok (.getfield 16, 3) := by decide +kernel
theorem di_X2_52 : decode cX2_init 52 = .ok (.lconst 1, 1) := by decide +kernel
theorem di_X2_53 : decode cX2_init 53 = .ok (.invokevirtual 25, 3) := by decide +kernel
theorem di_X2_56 : decode cX2_init 56 = .ok (.return_, 1) := by decide +kernel
def BI_X2 : List (Nat × List rxOp) := [(48, [o_al 0, o_gf 2 1, o_c (.long 1), o_cr M_Big_become 2 (some 1) 2, o_rv])]
theorem VI_X2 : rx_vB RX2 cX2_init 1 none 3 BI_X2 := rx_vB_cons (rx_vc (pc' := 49) (ok_aload_n di_X2_48 rfl) (rx_vc (pc' := 52) (ok_get di_X2_49 cl_2 (by decide) iw_249) (rx_vc (pc' := 53) (ok_lconst di_X2_52 (by decide)) (rx_vc (pc' := 56) (ok_cr (Or.inl ⟨_, 1, TX1, 2, rfl, rfl, rfl, gM_Big_become, di_X2_53, iw_239, iw_240, iw_241⟩) (by decide)) (rx_vc (pc' := 57) (ok_vret di_X2_56 rfl) trivial))))) rx_vn
theorem EI_X2 : rx_Ex BI_X2 (fun r w => r = none ∧ ∃ (bn : Int32) (bd : Nat → Int32), BR bd bn 1 ∧ w = [(103, .inr (2, [.ref 113, .ref 114, .ref 115, .ref 116, .int 0])), (113, .inr (1, [.ref 117, .int 0])), (117, .inl (0, 16, .inl (fun _ => 0))), (114, .inr (1, [.ref 118, .int bn])), (118, .inl (0, 16, .inl bd)), (115, .inr (1, [.ref 119, .int 0])), (119, .inl (0, 16, .inl (fun _ => 0))), (116, .inr (1, [.ref 120, .int 0])), (120, .inl (0, 16, .inl (fun _ => 0)))]) 48 [(0, .ref 103)] [] [(103, .inr (2, [.ref 113, .ref 114, .ref 115, .ref 116, .int 0])), (113, .inr (1, [.ref 117, .int 0])), (117, .inl (0, 16, .inl (fun _ => 0))), (114, .inr (1, [.ref 118, .int 0])), (118, .inl (0, 16, .inl (fun _ => 0))), (115, .inr (1, [.ref 119, .int 0])), (119, .inl (0, 16, .inl (fun _ => 0))), (116, .inr (1, [.ref 120, .int 0])), (120, .inl (0, 16, .inl (fun _ => 0)))] := rx_step _ rfl (U_Big_become (Q := fun d' n' => BR d' n' (uJ 1)) (S_Big_become fun d' n' h => h) (fun d' n' h => ⟨rfl, n', d', h, rfl⟩))
def MI_X2 : rxM := (yX2_init, cX2_init, 1, none)
theorem gI_X2 : rx_gM MI_X2 0 := ⟨rx_tw 222 (by decide +kernel) rfl, iw_102, ⟨by decide +kernel, by decide +kernel, by decide +kernel⟩, by decide⟩
set_option maxRecDepth 100000 in
set_option maxHeartbeats 4000000 in
theorem CI_X2 (l : Launch) (D : va_G) (cs : Nat → ClassId) (h0 : Nat) (sz : Nat) : Met l MI_X2.1 (rx_ws MI_X2) ({ frames := 3, cells := 8, slots := 72, locals := 192 }) (va_Pc [.ref h0] (fun U => U.heap.size = sz ∧ va_P D vwCl [(h0, .inr (2, [.null, .null, .null, .null, .int 0]))] U.heap ∧ va_K D vwCl (rx_ty cs) U ∧ va_D (fun _ => True) [(h0, .inr (2, [.null, .null, .null, .null, .int 0]))] ∧ rx_N U)) (va_Qv (fun _ : Nat → Nat => True) (fun u t => ∃ (bn : Int32) (bd : Nat → Int32), BR bd bn 1 ∧ va_P D vwCl [(h0, .inr (2, [.ref (u 0), .ref (u 2), .ref (u 4), .ref (u 6), .int 0])), ((u 0), .inr (1, [.ref (u 1), .int 0])), ((u 1), .inl (cs 0, 16, .inl (fun _ => 0))), ((u 2), .inr (1, [.ref (u 3), .int bn])), ((u 3), .inl (cs 0, 16, .inl bd)), ((u 4), .inr (1, [.ref (u 5), .int 0])), ((u 5), .inl (cs 0, 16, .inl (fun _ => 0))), ((u 6), .inr (1, [.ref (u 7), .int 0])), ((u 7), .inl (cs 0, 16, .inl (fun _ => 0)))] t.heap ∧ va_D (va_A [(h0, .inr (2, [.null, .null, .null, .null, .int 0]))] sz) [(h0, .inr (2, [.ref (u 0), .ref (u 2), .ref (u 4), .ref (u 6), .int 0])), ((u 0), .inr (1, [.ref (u 1), .int 0])), ((u 1), .inl (cs 0, 16, .inl (fun _ => 0))), ((u 2), .inr (1, [.ref (u 3), .int bn])), ((u 3), .inl (cs 0, 16, .inl bd)), ((u 4), .inr (1, [.ref (u 5), .int 0])), ((u 5), .inl (cs 0, 16, .inl (fun _ => 0))), ((u 6), .inr (1, [.ref (u 7), .int 0])), ((u 7), .inl (cs 0, 16, .inl (fun _ => 0)))]) (va_A [(h0, .inr (2, [.null, .null, .null, .null, .int 0]))] sz)) 8 72 (va_A [(h0, .inr (2, [.null, .null, .null, .null, .int 0]))] sz) := by
  refine Met.ofW (cc := cX2_init) (maxL := 1) (ret := none) (by decide) rfl ?_
  intro p e s m args below meth c s₁ B hml hv
  obtain ⟨rfl, hsz, hP, hK, hD0, hN⟩ := hv
  have hx := B.exec
  have hb := B.bytes
  have hr := B.returns
  have hts0 := atoms_spec (ws := rx_ws MI_X2) B.pre
  have hts : ∀ w ∈ rx_tbl, w.before _ s = true := fun w hw => hts0 w (List.mem_cons_of_mem _ hw)
  have hown : s.vm.findClass RX2 = some m.cls := findClass_of_methodNamed B.named
  have hlocks := B.notSynchronized
  have hin : meth.name = "<init>" := (name_of_methodNamed B.named B.method).1
  subst hsz
  have hD := hD0.self (sz := s.heap.size)
  generalize hAe : va_A [(h0, .inr (2, [.null, .null, .null, .null, .int 0]))] s.heap.size = A at hD ⊢
  have hA : ∀ q : Nat, s.heap.size ≤ q → A q := fun q h => by rw [← hAe]; exact Or.inr h
  have hS : va_S A s.heap s.heap [] := va_S.rf
  have hl := lv_entry ([.ref h0]) (n := 1) (Nat.le_of_ble_eq_true rfl)
  rw [lg_entry_eq]
  generalize (lg_sl ([.ref h0]) ++ List.replicate (1 - (lg_sl ([.ref h0])).length) Slot.unset).toArray = ls at hl ⊢
  have hl : lv_has ls 1 [(0, .ref h0)] := hl
  refine lv_aload_n hx hb di_X2_0 rfl (lv_at hl 0 rfl) ?_
  refine W.objInit hx hb hown (hts _ iw_223) (hts _ iw_123) (hts _ iw_124) rfl (by rw [hml]; exact hl.1) rfl di_X2_1 (Nat.le_of_ble_eq_true rfl) (Nat.le_of_ble_eq_true rfl) ?_
  refine W.eq (g2 := F0 m 4 ls []) rfl ?_
  refine lv_aload_n hx hb di_X2_4 rfl (lv_at hl 0 rfl) ?_
  refine va_new (ci := 1) (fs := [.null, .int 0]) (C := RX1) (T := TX1) (N := 2) hx hb hts cl_1.2.1 tyX1 tyX1_ok hown (hts (.classLink RX2 7 RX1) iw_224) (hts (.instantiable RX1 2) iw_225) (hts (.initialized RX1) iw_103) hK hP hD hS hA rfl (fun j hj => by rcases (show j = 0 ∨ j = 1 by omega) with rfl | rfl <;> rfl) (Nat.le_of_ble_eq_true rfl) (Nat.le_of_ble_eq_true rfl) di_X2_5 (fun q5 H hP hD hS => ?_)
  have hP : va_P D vwCl [(h0, .inr (2, [.null, .null, .null, .null, .int 0])), (q5, .inr (1, [.null, .int 0]))] H := hP
  have hD : va_D A [(h0, .inr (2, [.null, .null, .null, .null, .int 0])), (q5, .inr (1, [.null, .int 0]))] := hD
  refine lv_dup hx hb di_X2_8 rfl ?_
  have hPc := hP.sub (ws' := [(q5, .inr (1, [.null, .int 0]))]) [1] rfl
  have hDc := hD.sub (ws' := [(q5, .inr (1, [.null, .int 0]))]) [1] (by decide) rfl
  have hFc := va_free (wc := [(q5, .inr (1, [.null, .int 0]))]) hD hS hA [1] rfl
  refine va_callv (va_runIN (Ts := rx_tbl) (As := []) (rest := [.ref q5, .ref h0]) ⟨hx, hb, hml, hown, hts⟩ (CI_X1 l D cs q5  H.size) ⟨va_cnB 0 hts (rx_gin gI_X1) rfl rfl rfl (hN _ in_226) (hts _ iw_103) ⟨by decide +kernel, by decide +kernel, by decide +kernel⟩ ⟨Nat.le_of_ble_eq_true rfl, Nat.le_of_ble_eq_true rfl⟩, rfl, (hts _ iw_227)⟩ ⟨rx_Pc_blind, fun U hU hW => ⟨rfl, by rw [hU], by rw [hU]; exact hPc, va_K.moved hW.alike hK, hDc.weaken (fun _ _ _ _ => trivial), rx_N_warm hW hN⟩⟩ rfl rfl hl.1 rfl (lv_room (Nat.le_of_ble_eq_true rfl)) di_X2_9 ⟨Nat.le_of_ble_eq_true rfl, Nat.le_of_ble_eq_true rfl⟩) hS (fun q _ h => hFc q h) hFc (fun u9 t H1 locs ht hvm hw hB hz1 hk1 hS => ?_)
  obtain ⟨hP1, hD1⟩ := hB
  rw [ht] at hP1
  obtain ⟨hP, hD⟩ := va_join (wr := [(h0, .inr (2, [.null, .null, .null, .null, .int 0]))]) (w1 := [(q5, .inr (1, [.ref (u9 0), .int 0])), ((u9 0), .inl (cs 0, 16, .inl (fun _ => 0)))]) hP hD [1] [0] rfl rfl (by decide) (by decide) hk1 hFc hP1 hD1
  generalize H1 = H at hP hS ⊢
  have hP : va_P D vwCl [(h0, .inr (2, [.null, .null, .null, .null, .int 0])), (q5, .inr (1, [.ref (u9 0), .int 0])), ((u9 0), .inl (cs 0, 16, .inl (fun _ => 0)))] H := hP
  have hD : va_D A [(h0, .inr (2, [.null, .null, .null, .null, .int 0])), (q5, .inr (1, [.ref (u9 0), .int 0])), ((u9 0), .inl (cs 0, 16, .inl (fun _ => 0)))] := hD
  refine va_putF (D := D) (ci := 2) (v := .ref q5) (ty := .object "FlungFingers$Big") (C := RX2) (T := TX2) (N := 5) hx hb hts cl_2.2.1 tyX2 tyX2_ok nmX2 hown hK hP hD hS 0 rfl rfl 0 (by decide) (hts (.fieldLink RX2 10 "FlungFingers$Fraction" "above" "LFlungFingers$Big;") iw_248) (fun _ h9 => h9) rfl hin rfl (by decide +kernel) rfl rfl (Nat.le_of_ble_eq_true rfl) di_X2_12 (fun H locs hP hD hS => ?_)
  have hP : va_P D vwCl [(h0, .inr (2, [.ref q5, .null, .null, .null, .int 0])), (q5, .inr (1, [.ref (u9 0), .int 0])), ((u9 0), .inl (cs 0, 16, .inl (fun _ => 0)))] H := hP
  have hD : va_D A [(h0, .inr (2, [.ref q5, .null, .null, .null, .int 0])), (q5, .inr (1, [.ref (u9 0), .int 0])), ((u9 0), .inl (cs 0, 16, .inl (fun _ => 0)))] := hD
  refine lv_aload_n hx hb di_X2_15 rfl (lv_at hl 0 rfl) ?_
  refine va_new (ci := 1) (fs := [.null, .int 0]) (C := RX1) (T := TX1) (N := 2) hx hb hts cl_1.2.1 tyX1 tyX1_ok hown (hts (.classLink RX2 7 RX1) iw_224) (hts (.instantiable RX1 2) iw_225) (hts (.initialized RX1) iw_103) hK hP hD hS hA rfl (fun j hj => by rcases (show j = 0 ∨ j = 1 by omega) with rfl | rfl <;> rfl) (Nat.le_of_ble_eq_true rfl) (Nat.le_of_ble_eq_true rfl) di_X2_16 (fun q16 H hP hD hS => ?_)
  have hP : va_P D vwCl [(h0, .inr (2, [.ref q5, .null, .null, .null, .int 0])), (q5, .inr (1, [.ref (u9 0), .int 0])), ((u9 0), .inl (cs 0, 16, .inl (fun _ => 0))), (q16, .inr (1, [.null, .int 0]))] H := hP
  have hD : va_D A [(h0, .inr (2, [.ref q5, .null, .null, .null, .int 0])), (q5, .inr (1, [.ref (u9 0), .int 0])), ((u9 0), .inl (cs 0, 16, .inl (fun _ => 0))), (q16, .inr (1, [.null, .int 0]))] := hD
  refine lv_dup hx hb di_X2_19 rfl ?_
  have hPc := hP.sub (ws' := [(q16, .inr (1, [.null, .int 0]))]) [3] rfl
  have hDc := hD.sub (ws' := [(q16, .inr (1, [.null, .int 0]))]) [3] (by decide) rfl
  have hFc := va_free (wc := [(q16, .inr (1, [.null, .int 0]))]) hD hS hA [3] rfl
  refine va_callv (va_runIN (Ts := rx_tbl) (As := []) (rest := [.ref q16, .ref h0]) ⟨hx, hb, hml, hown, hts⟩ (CI_X1 l D cs q16  H.size) ⟨va_cnB 0 hts (rx_gin gI_X1) rfl rfl rfl (hN _ in_226) (hts _ iw_103) ⟨by decide +kernel, by decide +kernel, by decide +kernel⟩ ⟨Nat.le_of_ble_eq_true rfl, Nat.le_of_ble_eq_true rfl⟩, rfl, (hts _ iw_227)⟩ ⟨rx_Pc_blind, fun U hU hW => ⟨rfl, by rw [hU], by rw [hU]; exact hPc, va_K.moved hW.alike hK, hDc.weaken (fun _ _ _ _ => trivial), rx_N_warm hW hN⟩⟩ rfl rfl hl.1 rfl (lv_room (Nat.le_of_ble_eq_true rfl)) di_X2_20 ⟨Nat.le_of_ble_eq_true rfl, Nat.le_of_ble_eq_true rfl⟩) hS (fun q _ h => hFc q h) hFc (fun u20 t H1 locs ht hvm hw hB hz1 hk1 hS => ?_)
  obtain ⟨hP1, hD1⟩ := hB
  rw [ht] at hP1
  obtain ⟨hP, hD⟩ := va_join (wr := [(h0, .inr (2, [.ref q5, .null, .null, .null, .int 0])), (q5, .inr (1, [.ref (u9 0), .int 0])), ((u9 0), .inl (cs 0, 16, .inl (fun _ => 0)))]) (w1 := [(q16, .inr (1, [.ref (u20 0), .int 0])), ((u20 0), .inl (cs 0, 16, .inl (fun _ => 0)))]) hP hD [3] [0, 1, 2] rfl rfl (by decide) (by decide) hk1 hFc hP1 hD1
  generalize H1 = H at hP hS ⊢
  have hP : va_P D vwCl [(h0, .inr (2, [.ref q5, .null, .null, .null, .int 0])), (q5, .inr (1, [.ref (u9 0), .int 0])), ((u9 0), .inl (cs 0, 16, .inl (fun _ => 0))), (q16, .inr (1, [.ref (u20 0), .int 0])), ((u20 0), .inl (cs 0, 16, .inl (fun _ => 0)))] H := hP
  have hD : va_D A [(h0, .inr (2, [.ref q5, .null, .null, .null, .int 0])), (q5, .inr (1, [.ref (u9 0), .int 0])), ((u9 0), .inl (cs 0, 16, .inl (fun _ => 0))), (q16, .inr (1, [.ref (u20 0), .int 0])), ((u20 0), .inl (cs 0, 16, .inl (fun _ => 0)))] := hD
  refine va_putF (D := D) (ci := 2) (v := .ref q16) (ty := .object "FlungFingers$Big") (C := RX2) (T := TX2) (N := 5) hx hb hts cl_2.2.1 tyX2 tyX2_ok nmX2 hown hK hP hD hS 0 rfl rfl 1 (by decide) (hts (.fieldLink RX2 16 "FlungFingers$Fraction" "below" "LFlungFingers$Big;") iw_249) (fun _ h9 => h9) rfl hin rfl (by decide +kernel) rfl rfl (Nat.le_of_ble_eq_true rfl) di_X2_23 (fun H locs hP hD hS => ?_)
  have hP : va_P D vwCl [(h0, .inr (2, [.ref q5, .ref q16, .null, .null, .int 0])), (q5, .inr (1, [.ref (u9 0), .int 0])), ((u9 0), .inl (cs 0, 16, .inl (fun _ => 0))), (q16, .inr (1, [.ref (u20 0), .int 0])), ((u20 0), .inl (cs 0, 16, .inl (fun _ => 0)))] H := hP
  have hD : va_D A [(h0, .inr (2, [.ref q5, .ref q16, .null, .null, .int 0])), (q5, .inr (1, [.ref (u9 0), .int 0])), ((u9 0), .inl (cs 0, 16, .inl (fun _ => 0))), (q16, .inr (1, [.ref (u20 0), .int 0])), ((u20 0), .inl (cs 0, 16, .inl (fun _ => 0)))] := hD
  refine lv_aload_n hx hb di_X2_26 rfl (lv_at hl 0 rfl) ?_
  refine va_new (ci := 1) (fs := [.null, .int 0]) (C := RX1) (T := TX1) (N := 2) hx hb hts cl_1.2.1 tyX1 tyX1_ok hown (hts (.classLink RX2 7 RX1) iw_224) (hts (.instantiable RX1 2) iw_225) (hts (.initialized RX1) iw_103) hK hP hD hS hA rfl (fun j hj => by rcases (show j = 0 ∨ j = 1 by omega) with rfl | rfl <;> rfl) (Nat.le_of_ble_eq_true rfl) (Nat.le_of_ble_eq_true rfl) di_X2_27 (fun q27 H hP hD hS => ?_)
  have hP : va_P D vwCl [(h0, .inr (2, [.ref q5, .ref q16, .null, .null, .int 0])), (q5, .inr (1, [.ref (u9 0), .int 0])), ((u9 0), .inl (cs 0, 16, .inl (fun _ => 0))), (q16, .inr (1, [.ref (u20 0), .int 0])), ((u20 0), .inl (cs 0, 16, .inl (fun _ => 0))), (q27, .inr (1, [.null, .int 0]))] H := hP
  have hD : va_D A [(h0, .inr (2, [.ref q5, .ref q16, .null, .null, .int 0])), (q5, .inr (1, [.ref (u9 0), .int 0])), ((u9 0), .inl (cs 0, 16, .inl (fun _ => 0))), (q16, .inr (1, [.ref (u20 0), .int 0])), ((u20 0), .inl (cs 0, 16, .inl (fun _ => 0))), (q27, .inr (1, [.null, .int 0]))] := hD
  refine lv_dup hx hb di_X2_30 rfl ?_
  have hPc := hP.sub (ws' := [(q27, .inr (1, [.null, .int 0]))]) [5] rfl
  have hDc := hD.sub (ws' := [(q27, .inr (1, [.null, .int 0]))]) [5] (by decide) rfl
  have hFc := va_free (wc := [(q27, .inr (1, [.null, .int 0]))]) hD hS hA [5] rfl
  refine va_callv (va_runIN (Ts := rx_tbl) (As := []) (rest := [.ref q27, .ref h0]) ⟨hx, hb, hml, hown, hts⟩ (CI_X1 l D cs q27  H.size) ⟨va_cnB 0 hts (rx_gin gI_X1) rfl rfl rfl (hN _ in_226) (hts _ iw_103) ⟨by decide +kernel, by decide +kernel, by decide +kernel⟩ ⟨Nat.le_of_ble_eq_true rfl, Nat.le_of_ble_eq_true rfl⟩, rfl, (hts _ iw_227)⟩ ⟨rx_Pc_blind, fun U hU hW => ⟨rfl, by rw [hU], by rw [hU]; exact hPc, va_K.moved hW.alike hK, hDc.weaken (fun _ _ _ _ => trivial), rx_N_warm hW hN⟩⟩ rfl rfl hl.1 rfl (lv_room (Nat.le_of_ble_eq_true rfl)) di_X2_31 ⟨Nat.le_of_ble_eq_true rfl, Nat.le_of_ble_eq_true rfl⟩) hS (fun q _ h => hFc q h) hFc (fun u31 t H1 locs ht hvm hw hB hz1 hk1 hS => ?_)
  obtain ⟨hP1, hD1⟩ := hB
  rw [ht] at hP1
  obtain ⟨hP, hD⟩ := va_join (wr := [(h0, .inr (2, [.ref q5, .ref q16, .null, .null, .int 0])), (q5, .inr (1, [.ref (u9 0), .int 0])), ((u9 0), .inl (cs 0, 16, .inl (fun _ => 0))), (q16, .inr (1, [.ref (u20 0), .int 0])), ((u20 0), .inl (cs 0, 16, .inl (fun _ => 0)))]) (w1 := [(q27, .inr (1, [.ref (u31 0), .int 0])), ((u31 0), .inl (cs 0, 16, .inl (fun _ => 0)))]) hP hD [5] [0, 1, 2, 3, 4] rfl rfl (by decide) (by decide) hk1 hFc hP1 hD1
  generalize H1 = H at hP hS ⊢
  have hP : va_P D vwCl [(h0, .inr (2, [.ref q5, .ref q16, .null, .null, .int 0])), (q5, .inr (1, [.ref (u9 0), .int 0])), ((u9 0), .inl (cs 0, 16, .inl (fun _ => 0))), (q16, .inr (1, [.ref (u20 0), .int 0])), ((u20 0), .inl (cs 0, 16, .inl (fun _ => 0))), (q27, .inr (1, [.ref (u31 0), .int 0])), ((u31 0), .inl (cs 0, 16, .inl (fun _ => 0)))] H := hP
  have hD : va_D A [(h0, .inr (2, [.ref q5, .ref q16, .null, .null, .int 0])), (q5, .inr (1, [.ref (u9 0), .int 0])), ((u9 0), .inl (cs 0, 16, .inl (fun _ => 0))), (q16, .inr (1, [.ref (u20 0), .int 0])), ((u20 0), .inl (cs 0, 16, .inl (fun _ => 0))), (q27, .inr (1, [.ref (u31 0), .int 0])), ((u31 0), .inl (cs 0, 16, .inl (fun _ => 0)))] := hD
  refine va_putF (D := D) (ci := 2) (v := .ref q27) (ty := .object "FlungFingers$Big") (C := RX2) (T := TX2) (N := 5) hx hb hts cl_2.2.1 tyX2 tyX2_ok nmX2 hown hK hP hD hS 0 rfl rfl 2 (by decide) (hts (.fieldLink RX2 19 "FlungFingers$Fraction" "common" "LFlungFingers$Big;") iw_250) (fun _ h9 => h9) rfl hin rfl (by decide +kernel) rfl rfl (Nat.le_of_ble_eq_true rfl) di_X2_34 (fun H locs hP hD hS => ?_)
  have hP : va_P D vwCl [(h0, .inr (2, [.ref q5, .ref q16, .ref q27, .null, .int 0])), (q5, .inr (1, [.ref (u9 0), .int 0])), ((u9 0), .inl (cs 0, 16, .inl (fun _ => 0))), (q16, .inr (1, [.ref (u20 0), .int 0])), ((u20 0), .inl (cs 0, 16, .inl (fun _ => 0))), (q27, .inr (1, [.ref (u31 0), .int 0])), ((u31 0), .inl (cs 0, 16, .inl (fun _ => 0)))] H := hP
  have hD : va_D A [(h0, .inr (2, [.ref q5, .ref q16, .ref q27, .null, .int 0])), (q5, .inr (1, [.ref (u9 0), .int 0])), ((u9 0), .inl (cs 0, 16, .inl (fun _ => 0))), (q16, .inr (1, [.ref (u20 0), .int 0])), ((u20 0), .inl (cs 0, 16, .inl (fun _ => 0))), (q27, .inr (1, [.ref (u31 0), .int 0])), ((u31 0), .inl (cs 0, 16, .inl (fun _ => 0)))] := hD
  refine lv_aload_n hx hb di_X2_37 rfl (lv_at hl 0 rfl) ?_
  refine va_new (ci := 1) (fs := [.null, .int 0]) (C := RX1) (T := TX1) (N := 2) hx hb hts cl_1.2.1 tyX1 tyX1_ok hown (hts (.classLink RX2 7 RX1) iw_224) (hts (.instantiable RX1 2) iw_225) (hts (.initialized RX1) iw_103) hK hP hD hS hA rfl (fun j hj => by rcases (show j = 0 ∨ j = 1 by omega) with rfl | rfl <;> rfl) (Nat.le_of_ble_eq_true rfl) (Nat.le_of_ble_eq_true rfl) di_X2_38 (fun q38 H hP hD hS => ?_)
  have hP : va_P D vwCl [(h0, .inr (2, [.ref q5, .ref q16, .ref q27, .null, .int 0])), (q5, .inr (1, [.ref (u9 0), .int 0])), ((u9 0), .inl (cs 0, 16, .inl (fun _ => 0))), (q16, .inr (1, [.ref (u20 0), .int 0])), ((u20 0), .inl (cs 0, 16, .inl (fun _ => 0))), (q27, .inr (1, [.ref (u31 0), .int 0])), ((u31 0), .inl (cs 0, 16, .inl (fun _ => 0))), (q38, .inr (1, [.null, .int 0]))] H := hP
  have hD : va_D A [(h0, .inr (2, [.ref q5, .ref q16, .ref q27, .null, .int 0])), (q5, .inr (1, [.ref (u9 0), .int 0])), ((u9 0), .inl (cs 0, 16, .inl (fun _ => 0))), (q16, .inr (1, [.ref (u20 0), .int 0])), ((u20 0), .inl (cs 0, 16, .inl (fun _ => 0))), (q27, .inr (1, [.ref (u31 0), .int 0])), ((u31 0), .inl (cs 0, 16, .inl (fun _ => 0))), (q38, .inr (1, [.null, .int 0]))] := hD
  refine lv_dup hx hb di_X2_41 rfl ?_
  have hPc := hP.sub (ws' := [(q38, .inr (1, [.null, .int 0]))]) [7] rfl
  have hDc := hD.sub (ws' := [(q38, .inr (1, [.null, .int 0]))]) [7] (by decide) rfl
  have hFc := va_free (wc := [(q38, .inr (1, [.null, .int 0]))]) hD hS hA [7] rfl
  refine va_callv (va_runIN (Ts := rx_tbl) (As := []) (rest := [.ref q38, .ref h0]) ⟨hx, hb, hml, hown, hts⟩ (CI_X1 l D cs q38  H.size) ⟨va_cnB 0 hts (rx_gin gI_X1) rfl rfl rfl (hN _ in_226) (hts _ iw_103) ⟨by decide +kernel, by decide +kernel, by decide +kernel⟩ ⟨Nat.le_of_ble_eq_true rfl, Nat.le_of_ble_eq_true rfl⟩, rfl, (hts _ iw_227)⟩ ⟨rx_Pc_blind, fun U hU hW => ⟨rfl, by rw [hU], by rw [hU]; exact hPc, va_K.moved hW.alike hK, hDc.weaken (fun _ _ _ _ => trivial), rx_N_warm hW hN⟩⟩ rfl rfl hl.1 rfl (lv_room (Nat.le_of_ble_eq_true rfl)) di_X2_42 ⟨Nat.le_of_ble_eq_true rfl, Nat.le_of_ble_eq_true rfl⟩) hS (fun q _ h => hFc q h) hFc (fun u42 t H1 locs ht hvm hw hB hz1 hk1 hS => ?_)
  obtain ⟨hP1, hD1⟩ := hB
  rw [ht] at hP1
  obtain ⟨hP, hD⟩ := va_join (wr := [(h0, .inr (2, [.ref q5, .ref q16, .ref q27, .null, .int 0])), (q5, .inr (1, [.ref (u9 0), .int 0])), ((u9 0), .inl (cs 0, 16, .inl (fun _ => 0))), (q16, .inr (1, [.ref (u20 0), .int 0])), ((u20 0), .inl (cs 0, 16, .inl (fun _ => 0))), (q27, .inr (1, [.ref (u31 0), .int 0])), ((u31 0), .inl (cs 0, 16, .inl (fun _ => 0)))]) (w1 := [(q38, .inr (1, [.ref (u42 0), .int 0])), ((u42 0), .inl (cs 0, 16, .inl (fun _ => 0)))]) hP hD [7] [0, 1, 2, 3, 4, 5, 6] rfl rfl (by decide) (by decide) hk1 hFc hP1 hD1
  generalize H1 = H at hP hS ⊢
  have hP : va_P D vwCl [(h0, .inr (2, [.ref q5, .ref q16, .ref q27, .null, .int 0])), (q5, .inr (1, [.ref (u9 0), .int 0])), ((u9 0), .inl (cs 0, 16, .inl (fun _ => 0))), (q16, .inr (1, [.ref (u20 0), .int 0])), ((u20 0), .inl (cs 0, 16, .inl (fun _ => 0))), (q27, .inr (1, [.ref (u31 0), .int 0])), ((u31 0), .inl (cs 0, 16, .inl (fun _ => 0))), (q38, .inr (1, [.ref (u42 0), .int 0])), ((u42 0), .inl (cs 0, 16, .inl (fun _ => 0)))] H := hP
  have hD : va_D A [(h0, .inr (2, [.ref q5, .ref q16, .ref q27, .null, .int 0])), (q5, .inr (1, [.ref (u9 0), .int 0])), ((u9 0), .inl (cs 0, 16, .inl (fun _ => 0))), (q16, .inr (1, [.ref (u20 0), .int 0])), ((u20 0), .inl (cs 0, 16, .inl (fun _ => 0))), (q27, .inr (1, [.ref (u31 0), .int 0])), ((u31 0), .inl (cs 0, 16, .inl (fun _ => 0))), (q38, .inr (1, [.ref (u42 0), .int 0])), ((u42 0), .inl (cs 0, 16, .inl (fun _ => 0)))] := hD
  refine va_putF (D := D) (ci := 2) (v := .ref q38) (ty := .object "FlungFingers$Big") (C := RX2) (T := TX2) (N := 5) hx hb hts cl_2.2.1 tyX2 tyX2_ok nmX2 hown hK hP hD hS 0 rfl rfl 3 (by decide) (hts (.fieldLink RX2 22 "FlungFingers$Fraction" "spare" "LFlungFingers$Big;") iw_251) (fun _ h9 => h9) rfl hin rfl (by decide +kernel) rfl rfl (Nat.le_of_ble_eq_true rfl) di_X2_45 (fun H locs hP hD hS => ?_)
  have hP : va_P D vwCl [(h0, .inr (2, [.ref q5, .ref q16, .ref q27, .ref q38, .int 0])), (q5, .inr (1, [.ref (u9 0), .int 0])), ((u9 0), .inl (cs 0, 16, .inl (fun _ => 0))), (q16, .inr (1, [.ref (u20 0), .int 0])), ((u20 0), .inl (cs 0, 16, .inl (fun _ => 0))), (q27, .inr (1, [.ref (u31 0), .int 0])), ((u31 0), .inl (cs 0, 16, .inl (fun _ => 0))), (q38, .inr (1, [.ref (u42 0), .int 0])), ((u42 0), .inl (cs 0, 16, .inl (fun _ => 0)))] H := hP
  have hD : va_D A [(h0, .inr (2, [.ref q5, .ref q16, .ref q27, .ref q38, .int 0])), (q5, .inr (1, [.ref (u9 0), .int 0])), ((u9 0), .inl (cs 0, 16, .inl (fun _ => 0))), (q16, .inr (1, [.ref (u20 0), .int 0])), ((u20 0), .inl (cs 0, 16, .inl (fun _ => 0))), (q27, .inr (1, [.ref (u31 0), .int 0])), ((u31 0), .inl (cs 0, 16, .inl (fun _ => 0))), (q38, .inr (1, [.ref (u42 0), .int 0])), ((u42 0), .inl (cs 0, 16, .inl (fun _ => 0)))] := hD
  refine W.widen (k := 8) (n := 72) (Nat.le_of_ble_eq_true rfl) (Nat.le_of_ble_eq_true rfl) ?_
  refine rx_Ex_sound (own := RX2) (cc := cX2_init) (nL := 1) (rt := none) (δ := 3) (cs := cs) (ad := (adL [(103, h0), (113, q5), (117, (u9 0)), (114, q16), (118, (u20 0)), (115, q27), (119, (u31 0)), (116, q38), (120, (u42 0))])) (A := A) (H0 := s.heap) (st := []) ⟨hx, hb, hml, hown, hts, hK, Nat.le_of_ble_eq_true rfl, Nat.le_of_ble_eq_true rfl, hA, Nat.le_of_ble_eq_true rfl, Nat.le_of_ble_eq_true rfl, hN⟩ VI_X2 ?_ EI_X2 ⟨hP, hD, hS, hl, rfl⟩
  intro r w' lv' H' locs' ls' pc1 ins hk hw hd hret
  obtain ⟨rfl, bn, bd, hBR, rfl⟩ := hk
  obtain ⟨g1, g2, g3, g4, g5⟩ := hw
  rcases hret with ⟨-, x, h, -⟩ | ⟨-, x, h, -⟩ | ⟨rfl, -, -⟩ | ⟨-, a, n, h, -⟩
  · cases h
  · cases h
  · exact W.vret hx hb hr (fun t ht hW => ⟨⟨(fun j => ([q5, (u9 0), q16, (u20 0), q27, (u31 0), q38, (u42 0)] : List Nat).getD j 0), rfl, trivial, bn, bd, hBR, by rw [ht]; exact g1, g2⟩, g3.F ht⟩) g3.2.2 hd
  · cases h
theorem di_X8_0 : decode cX8_init 0 = .ok (.aload_n 0, 1) := by decide +kernel
theorem di_X8_1 : decode cX8_init 1 = .ok (.invokespecial 3, 3) := by decide +kernel
theorem di_X8_4 : decode cX8_init 4 = .ok (.aload_n 0, 1) := by decide +kernel
theorem di_X8_5 : decode cX8_init 5 = .ok (.bipush 25, 2) := by decide +kernel
theorem di_X8_7 : decode cX8_init 7 = .ok (.newarray .int, 2) := by decide +kernel
theorem di_X8_9 : decode cX8_init 9 = .ok (.putfield 11, 3) := by decide +kernel
theorem di_X8_12 : decode cX8_init 12 = .ok (.aload_n 0, 1) := by decide +kernel
theorem di_X8_13 : decode cX8_init 13 = .ok (.bipush 25, 2) := by decide +kernel
theorem di_X8_15 : decode cX8_init 15 = .ok (.newarray .int, 2) := by decide +kernel
theorem di_X8_17 : decode cX8_init 17 = .ok (.putfield 15, 3) := by decide +kernel
theorem di_X8_20 : decode cX8_init 20 = .ok (.aload_n 0, 1) := by decide +kernel
theorem di_X8_21 : decode cX8_init 21 = .ok (.iconst 0, 1) := by decide +kernel
theorem di_X8_22 : decode cX8_init 22 = .ok (.iconst 1, 1) := by decide +kernel
theorem di_X8_23 : decode cX8_init 23 = .ok (.iconst 2, 1) := by decide +kernel
theorem di_X8_24 : decode cX8_init 24 = .ok (.iconst 2, 1) := by decide +kernel
theorem di_X8_25 : decode cX8_init 25 = .ok (.invokevirtual 18, 3) := by decide +kernel
theorem di_X8_28 : decode cX8_init 28 = .ok (.return_, 1) := by decide +kernel
def BI_X8 : List (Nat × List rxOp) := [(20, [o_al 0, o_c (.int 0), o_c (.int 1), o_c (.int 2), o_c (.int 2), o_ca M_Rule_become 2 (some 8) 5 [101, 159, 160], o_rv])]
theorem VI_X8 : rx_vB RX8 cX8_init 1 none 3 BI_X8 := rx_vB_cons (rx_vc (pc' := 21) (ok_aload_n di_X8_20 rfl) (rx_vc (pc' := 22) (ok_iconst di_X8_21 (by decide)) (rx_vc (pc' := 23) (ok_iconst di_X8_22 (by decide)) (rx_vc (pc' := 24) (ok_iconst di_X8_23 (by decide)) (rx_vc (pc' := 25) (ok_iconst di_X8_24 (by decide)) (rx_vc (pc' := 28) (ok_ca (Or.inl ⟨_, 8, TX8, 8, rfl, rfl, rfl, gM_Rule_become, di_X8_25, iw_131, iw_132, iw_133⟩) (by decide) rfl) (rx_vc (pc' := 29) (ok_vret di_X8_28 rfl) trivial))))))) rx_vn
theorem EI_X8 : rx_Ex BI_X8 (fun r w => r = none ∧ ∃ (rk rl rf rm rtc rwc : Int32) (rth rca : Nat → Int32), CR 0 1 2 2 rk rl rf rm rtc rwc rth rca ∧ w = [(101, .inr (8, [.ref 159, .ref 160, .int rk, .int rl, .int rf, .int rm, .int rtc, .int rwc])), (159, .inl (0, 25, .inl rth)), (160, .inl (0, 25, .inl rca))]) 20 [(0, .ref 101)] [] [(101, .inr (8, [.ref 159, .ref 160, .int 0, .int 0, .int 0, .int 0, .int 0, .int 0])), (159, .inl (0, 25, .inl (fun _ => 0))), (160, .inl (0, 25, .inl (fun _ => 0)))] := rx_step _ rfl (U_Rule_become (Q := fun a b c d e f g h => CR 0 1 2 2 a b c d e f g h) (S_Rule_become RuleOK_0 (by decide) (by decide) (by decide) (fun _ => by decide) (fun _ _ _ _ _ _ _ _ h => h)) (fun a b c d e f g h hC => ⟨rfl, a, b, c, d, e, f, g, h, hC, rfl⟩))
def MI_X8 : rxM := (yX8_init, cX8_init, 1, none)
theorem gI_X8 : rx_gM MI_X8 0 := ⟨rx_tw 129 (by decide +kernel) rfl, iw_100, ⟨by decide +kernel, by decide +kernel, by decide +kernel⟩, by decide⟩
set_option maxRecDepth 100000 in
set_option maxHeartbeats 4000000 in
theorem CI_X8 (l : Launch) (D : va_G) (cs : Nat → ClassId) (h0 : Nat) (sz : Nat) : Met l MI_X8.1 (rx_ws MI_X8) ({ frames := 3, cells := 2, slots := 50, locals := 192 }) (va_Pc [.ref h0] (fun U => U.heap.size = sz ∧ va_P D vwCl [(h0, .inr (8, [.null, .null, .int 0, .int 0, .int 0, .int 0, .int 0, .int 0]))] U.heap ∧ va_K D vwCl (rx_ty cs) U ∧ va_D (fun _ => True) [(h0, .inr (8, [.null, .null, .int 0, .int 0, .int 0, .int 0, .int 0, .int 0]))] ∧ rx_N U)) (va_Qv (fun _ : Nat → Nat => True) (fun u t => ∃ (rk rl rf rm rtc rwc : Int32) (rth rca : Nat → Int32), CR 0 1 2 2 rk rl rf rm rtc rwc rth rca ∧ va_P D vwCl [(h0, .inr (8, [.ref (u 0), .ref (u 1), .int rk, .int rl, .int rf, .int rm, .int rtc, .int rwc])), ((u 0), .inl (cs 0, 25, .inl rth)), ((u 1), .inl (cs 0, 25, .inl rca))] t.heap ∧ va_D (va_A [(h0, .inr (8, [.null, .null, .int 0, .int 0, .int 0, .int 0, .int 0, .int 0]))] sz) [(h0, .inr (8, [.ref (u 0), .ref (u 1), .int rk, .int rl, .int rf, .int rm, .int rtc, .int rwc])), ((u 0), .inl (cs 0, 25, .inl rth)), ((u 1), .inl (cs 0, 25, .inl rca))]) (va_A [(h0, .inr (8, [.null, .null, .int 0, .int 0, .int 0, .int 0, .int 0, .int 0]))] sz)) 2 50 (va_A [(h0, .inr (8, [.null, .null, .int 0, .int 0, .int 0, .int 0, .int 0, .int 0]))] sz) := by
  refine Met.ofW (cc := cX8_init) (maxL := 1) (ret := none) (by decide) rfl ?_
  intro p e s m args below meth c s₁ B hml hv
  obtain ⟨rfl, hsz, hP, hK, hD0, hN⟩ := hv
  have hx := B.exec
  have hb := B.bytes
  have hr := B.returns
  have hts0 := atoms_spec (ws := rx_ws MI_X8) B.pre
  have hts : ∀ w ∈ rx_tbl, w.before _ s = true := fun w hw => hts0 w (List.mem_cons_of_mem _ hw)
  have hown : s.vm.findClass RX8 = some m.cls := findClass_of_methodNamed B.named
  have hlocks := B.notSynchronized
  have hin : meth.name = "<init>" := (name_of_methodNamed B.named B.method).1
  subst hsz
  have hD := hD0.self (sz := s.heap.size)
  generalize hAe : va_A [(h0, .inr (8, [.null, .null, .int 0, .int 0, .int 0, .int 0, .int 0, .int 0]))] s.heap.size = A at hD ⊢
  have hA : ∀ q : Nat, s.heap.size ≤ q → A q := fun q h => by rw [← hAe]; exact Or.inr h
  have hS : va_S A s.heap s.heap [] := va_S.rf
  have hl := lv_entry ([.ref h0]) (n := 1) (Nat.le_of_ble_eq_true rfl)
  rw [lg_entry_eq]
  generalize (lg_sl ([.ref h0]) ++ List.replicate (1 - (lg_sl ([.ref h0])).length) Slot.unset).toArray = ls at hl ⊢
  have hl : lv_has ls 1 [(0, .ref h0)] := hl
  refine lv_aload_n hx hb di_X8_0 rfl (lv_at hl 0 rfl) ?_
  refine W.objInit hx hb hown (hts _ iw_130) (hts _ iw_123) (hts _ iw_124) rfl (by rw [hml]; exact hl.1) rfl di_X8_1 (Nat.le_of_ble_eq_true rfl) (Nat.le_of_ble_eq_true rfl) ?_
  refine W.eq (g2 := F0 m 4 ls []) rfl ?_
  refine lv_aload_n hx hb di_X8_4 rfl (lv_at hl 0 rfl) ?_
  refine lv_bipush (v := 25) hx hb di_X8_5 (by decide) ?_
  refine va_newa (atype := .int) (a0 := (25, .inl (fun _ => 0))) hx hb (hts _ iw_178) rfl hK hP hD hS hA (fun _ => rfl) (by decide) (by decide +kernel) (by decide +kernel) (Nat.le_of_ble_eq_true rfl) (Nat.le_of_ble_eq_true rfl) di_X8_7 (fun q7 cA H hK1 hP hD hS => ?_)
  obtain rfl := ac_int hK hK1
  have hP : va_P D vwCl [(h0, .inr (8, [.null, .null, .int 0, .int 0, .int 0, .int 0, .int 0, .int 0])), (q7, .inl (cs 0, 25, .inl (fun _ => 0)))] H := hP
  have hD : va_D A [(h0, .inr (8, [.null, .null, .int 0, .int 0, .int 0, .int 0, .int 0, .int 0])), (q7, .inl (cs 0, 25, .inl (fun _ => 0)))] := hD
  refine va_putF (D := D) (ci := 8) (v := .ref q7) (ty := .array .int) (C := RX8) (T := TX8) (N := 8) hx hb hts cl_8.2.1 tyX8 tyX8_ok nmX8 hown hK hP hD hS 0 rfl rfl 0 (by decide) (hts (.fieldLink RX8 11 "FlungFingers$Rule" "thrown" "[I") iw_139) (fun _ h9 => h9) rfl hin rfl (by decide +kernel) rfl rfl (Nat.le_of_ble_eq_true rfl) di_X8_9 (fun H locs hP hD hS => ?_)
  have hP : va_P D vwCl [(h0, .inr (8, [.ref q7, .null, .int 0, .int 0, .int 0, .int 0, .int 0, .int 0])), (q7, .inl (cs 0, 25, .inl (fun _ => 0)))] H := hP
  have hD : va_D A [(h0, .inr (8, [.ref q7, .null, .int 0, .int 0, .int 0, .int 0, .int 0, .int 0])), (q7, .inl (cs 0, 25, .inl (fun _ => 0)))] := hD
  refine lv_aload_n hx hb di_X8_12 rfl (lv_at hl 0 rfl) ?_
  refine lv_bipush (v := 25) hx hb di_X8_13 (by decide) ?_
  refine va_newa (atype := .int) (a0 := (25, .inl (fun _ => 0))) hx hb (hts _ iw_178) rfl hK hP hD hS hA (fun _ => rfl) (by decide) (by decide +kernel) (by decide +kernel) (Nat.le_of_ble_eq_true rfl) (Nat.le_of_ble_eq_true rfl) di_X8_15 (fun q15 cA H hK1 hP hD hS => ?_)
  obtain rfl := ac_int hK hK1
  have hP : va_P D vwCl [(h0, .inr (8, [.ref q7, .null, .int 0, .int 0, .int 0, .int 0, .int 0, .int 0])), (q7, .inl (cs 0, 25, .inl (fun _ => 0))), (q15, .inl (cs 0, 25, .inl (fun _ => 0)))] H := hP
  have hD : va_D A [(h0, .inr (8, [.ref q7, .null, .int 0, .int 0, .int 0, .int 0, .int 0, .int 0])), (q7, .inl (cs 0, 25, .inl (fun _ => 0))), (q15, .inl (cs 0, 25, .inl (fun _ => 0)))] := hD
  refine va_putF (D := D) (ci := 8) (v := .ref q15) (ty := .array .int) (C := RX8) (T := TX8) (N := 8) hx hb hts cl_8.2.1 tyX8 tyX8_ok nmX8 hown hK hP hD hS 0 rfl rfl 1 (by decide) (hts (.fieldLink RX8 15 "FlungFingers$Rule" "called" "[I") iw_140) (fun _ h9 => h9) rfl hin rfl (by decide +kernel) rfl rfl (Nat.le_of_ble_eq_true rfl) di_X8_17 (fun H locs hP hD hS => ?_)
  have hP : va_P D vwCl [(h0, .inr (8, [.ref q7, .ref q15, .int 0, .int 0, .int 0, .int 0, .int 0, .int 0])), (q7, .inl (cs 0, 25, .inl (fun _ => 0))), (q15, .inl (cs 0, 25, .inl (fun _ => 0)))] H := hP
  have hD : va_D A [(h0, .inr (8, [.ref q7, .ref q15, .int 0, .int 0, .int 0, .int 0, .int 0, .int 0])), (q7, .inl (cs 0, 25, .inl (fun _ => 0))), (q15, .inl (cs 0, 25, .inl (fun _ => 0)))] := hD
  refine W.widen (k := 2) (n := 50) (Nat.le_of_ble_eq_true rfl) (Nat.le_of_ble_eq_true rfl) ?_
  refine rx_Ex_sound (own := RX8) (cc := cX8_init) (nL := 1) (rt := none) (δ := 3) (cs := cs) (ad := (adL [(101, h0), (159, q7), (160, q15)])) (A := A) (H0 := s.heap) (st := []) ⟨hx, hb, hml, hown, hts, hK, Nat.le_of_ble_eq_true rfl, Nat.le_of_ble_eq_true rfl, hA, Nat.le_of_ble_eq_true rfl, Nat.le_of_ble_eq_true rfl, hN⟩ VI_X8 ?_ EI_X8 ⟨hP, hD, hS, hl, rfl⟩
  intro r w' lv' H' locs' ls' pc1 ins hk hw hd hret
  obtain ⟨rfl, rk, rl, rf, rm, rtc, rwc, rth, rca, hCR, rfl⟩ := hk
  obtain ⟨g1, g2, g3, g4, g5⟩ := hw
  rcases hret with ⟨-, x, h, -⟩ | ⟨-, x, h, -⟩ | ⟨rfl, -, -⟩ | ⟨-, a, n, h, -⟩
  · cases h
  · cases h
  · exact W.vret hx hb hr (fun t ht hW => ⟨⟨(fun j => ([q7, q15] : List Nat).getD j 0), rfl, trivial, rk, rl, rf, rm, rtc, rwc, rth, rca, hCR, by rw [ht]; exact g1, g2⟩, g3.F ht⟩) g3.2.2 hd
  · cases h
