def M_X0_plan : MI := (cX0_plan, 3, RX0, (some (.int)), { frames := 6, cells := 0, slots := 0, locals := 141 }, yX0_plan)
theorem V_X0_plan : MVV M_X0_plan 1 := ⟨⟨lw_goodIn 557 (by decide +kernel) rfl, lw_goodIn 72 (by decide +kernel) rfl, rfl, rfl, rfl, by decide +kernel, by decide +kernel, by decide +kernel⟩, lw_goodIn 555 (by decide +kernel) rfl, lw_goodIn 556 (by decide +kernel) rfl⟩
def M_X0_findOne : MI := (cX0_findOne, 5, RX0, (some (.boolean)), { frames := 4, cells := 0, slots := 0, locals := 92 }, yX0_findOne)
theorem V_X0_findOne : MVV M_X0_findOne 1 := ⟨⟨lw_goodIn 563 (by decide +kernel) rfl, lw_goodIn 72 (by decide +kernel) rfl, rfl, rfl, rfl, by decide +kernel, by decide +kernel, by decide +kernel⟩, lw_goodIn 562 (by decide +kernel) rfl, lw_goodIn 6 (by decide +kernel) rfl⟩
def M_X0_findTwo : MI := (cX0_findTwo, 5, RX0, (some (.boolean)), { frames := 5, cells := 0, slots := 0, locals := 117 }, yX0_findTwo)
theorem V_X0_findTwo : MVV M_X0_findTwo 1 := ⟨⟨lw_goodIn 579 (by decide +kernel) rfl, lw_goodIn 72 (by decide +kernel) rfl, rfl, rfl, rfl, by decide +kernel, by decide +kernel, by decide +kernel⟩, lw_goodIn 578 (by decide +kernel) rfl, lw_goodIn 9 (by decide +kernel) rfl⟩
def M_X0_findGreater : MI := (cX0_findGreater, 6, RX0, (some (.boolean)), { frames := 4, cells := 0, slots := 0, locals := 92 }, yX0_findGreater)
theorem V_X0_findGreater : MVV M_X0_findGreater 2 := ⟨⟨lw_goodIn 583 (by decide +kernel) rfl, lw_goodIn 72 (by decide +kernel) rfl, rfl, rfl, rfl, by decide +kernel, by decide +kernel, by decide +kernel⟩, lw_goodIn 582 (by decide +kernel) rfl, lw_goodIn 10 (by decide +kernel) rfl⟩
def M_X0_isMove : MI := (cX0_isMove, 3, RX0, (some (.boolean)), { frames := 1, cells := 0, slots := 0, locals := 21 }, yX0_isMove)
theorem V_X0_isMove : MVS M_X0_isMove 2 := ⟨⟨lw_goodIn 566 (by decide +kernel) rfl, lw_goodIn 72 (by decide +kernel) rfl, rfl, rfl, rfl, by decide +kernel, by decide +kernel, by decide +kernel⟩, lw_goodIn 565 (by decide +kernel) rfl⟩
def M_X0_mayMend : MI := (cX0_mayMend, 4, RX0, (some (.boolean)), { frames := 0, cells := 0, slots := 0, locals := 0 }, yX0_mayMend)
theorem V_X0_mayMend : MVV M_X0_mayMend 2 := ⟨⟨lw_goodIn 571 (by decide +kernel) rfl, lw_goodIn 72 (by decide +kernel) rfl, rfl, rfl, rfl, by decide +kernel, by decide +kernel, by decide +kernel⟩, lw_goodIn 570 (by decide +kernel) rfl, lw_goodIn 7 (by decide +kernel) rfl⟩
def M_X0_allHold : MI := (cX0_allHold, 5, RX0, (some (.boolean)), { frames := 3, cells := 0, slots := 0, locals := 68 }, yX0_allHold)
theorem V_X0_allHold : MVV M_X0_allHold 2 := ⟨⟨lw_goodIn 575 (by decide +kernel) rfl, lw_goodIn 72 (by decide +kernel) rfl, rfl, rfl, rfl, by decide +kernel, by decide +kernel, by decide +kernel⟩, lw_goodIn 574 (by decide +kernel) rfl, lw_goodIn 8 (by decide +kernel) rfl⟩
def M_X1_become : MI := (cX1_become, 2, RX1, none, { frames := 1, cells := 0, slots := 0, locals := 48 }, yX1_become)
theorem V_X1_become : MVV M_X1_become 1 := ⟨⟨lw_goodIn 504 (by decide +kernel) rfl, lw_goodIn 71 (by decide +kernel) rfl, rfl, rfl, rfl, by decide +kernel, by decide +kernel, by decide +kernel⟩, lw_goodIn 502 (by decide +kernel) rfl, lw_goodIn 503 (by decide +kernel) rfl⟩
def M_X1_addChild : MI := (cX1_addChild, 6, RX1, (some (.int)), { frames := 0, cells := 0, slots := 0, locals := 0 }, yX1_addChild)
theorem V_X1_addChild : MVV M_X1_addChild 4 := ⟨⟨lw_goodIn 350 (by decide +kernel) rfl, lw_goodIn 71 (by decide +kernel) rfl, rfl, rfl, rfl, by decide +kernel, by decide +kernel, by decide +kernel⟩, lw_goodIn 348 (by decide +kernel) rfl, lw_goodIn 349 (by decide +kernel) rfl⟩
def M_X1_addTreaty : MI := (cX1_addTreaty, 6, RX1, (some (.int)), { frames := 0, cells := 0, slots := 0, locals := 0 }, yX1_addTreaty)
theorem V_X1_addTreaty : MVV M_X1_addTreaty 4 := ⟨⟨lw_goodIn 428 (by decide +kernel) rfl, lw_goodIn 71 (by decide +kernel) rfl, rfl, rfl, rfl, by decide +kernel, by decide +kernel, by decide +kernel⟩, lw_goodIn 426 (by decide +kernel) rfl, lw_goodIn 427 (by decide +kernel) rfl⟩
def M_X1_isDead : MI := (cX1_isDead, 2, RX1, (some (.boolean)), { frames := 0, cells := 0, slots := 0, locals := 0 }, yX1_isDead)
theorem V_X1_isDead : MVV M_X1_isDead 1 := ⟨⟨lw_goodIn 323 (by decide +kernel) rfl, lw_goodIn 71 (by decide +kernel) rfl, rfl, rfl, rfl, by decide +kernel, by decide +kernel, by decide +kernel⟩, lw_goodIn 321 (by decide +kernel) rfl, lw_goodIn 322 (by decide +kernel) rfl⟩
def M_X1_isBroken : MI := (cX1_isBroken, 2, RX1, (some (.boolean)), { frames := 0, cells := 0, slots := 0, locals := 0 }, yX1_isBroken)
theorem V_X1_isBroken : MVV M_X1_isBroken 1 := ⟨⟨lw_goodIn 339 (by decide +kernel) rfl, lw_goodIn 71 (by decide +kernel) rfl, rfl, rfl, rfl, by decide +kernel, by decide +kernel, by decide +kernel⟩, lw_goodIn 337 (by decide +kernel) rfl, lw_goodIn 338 (by decide +kernel) rfl⟩
def M_X1_isInForce : MI := (cX1_isInForce, 2, RX1, (some (.boolean)), { frames := 1, cells := 0, slots := 0, locals := 21 }, yX1_isInForce)
theorem V_X1_isInForce : MVV M_X1_isInForce 1 := ⟨⟨lw_goodIn 335 (by decide +kernel) rfl, lw_goodIn 71 (by decide +kernel) rfl, rfl, rfl, rfl, by decide +kernel, by decide +kernel, by decide +kernel⟩, lw_goodIn 333 (by decide +kernel) rfl, lw_goodIn 334 (by decide +kernel) rfl⟩
def M_X1_lossOf : MI := (cX1_lossOf, 2, RX1, (some (.int)), { frames := 2, cells := 0, slots := 0, locals := 44 }, yX1_lossOf)
theorem V_X1_lossOf : MVV M_X1_lossOf 1 := ⟨⟨lw_goodIn 363 (by decide +kernel) rfl, lw_goodIn 71 (by decide +kernel) rfl, rfl, rfl, rfl, by decide +kernel, by decide +kernel, by decide +kernel⟩, lw_goodIn 361 (by decide +kernel) rfl, lw_goodIn 362 (by decide +kernel) rfl⟩
def M_X1_lossBeside : MI := (cX1_lossBeside, 4, RX1, (some (.int)), { frames := 1, cells := 0, slots := 0, locals := 21 }, yX1_lossBeside)
theorem V_X1_lossBeside : MVV M_X1_lossBeside 2 := ⟨⟨lw_goodIn 371 (by decide +kernel) rfl, lw_goodIn 71 (by decide +kernel) rfl, rfl, rfl, rfl, by decide +kernel, by decide +kernel, by decide +kernel⟩, lw_goodIn 370 (by decide +kernel) rfl, lw_goodIn 3 (by decide +kernel) rfl⟩
def M_X1_twinsAtHome : MI := (cX1_twinsAtHome, 4, RX1, (some (.int)), { frames := 1, cells := 0, slots := 0, locals := 21 }, yX1_twinsAtHome)
theorem V_X1_twinsAtHome : MVV M_X1_twinsAtHome 1 := ⟨⟨lw_goodIn 367 (by decide +kernel) rfl, lw_goodIn 71 (by decide +kernel) rfl, rfl, rfl, rfl, by decide +kernel, by decide +kernel, by decide +kernel⟩, lw_goodIn 366 (by decide +kernel) rfl, lw_goodIn 2 (by decide +kernel) rfl⟩
def M_X1_rolledHolder : MI := (cX1_rolledHolder, 2, RX1, (some (.int)), { frames := 1, cells := 0, slots := 0, locals := 21 }, yX1_rolledHolder)
theorem V_X1_rolledHolder : MVV M_X1_rolledHolder 1 := ⟨⟨lw_goodIn 809 (by decide +kernel) rfl, lw_goodIn 71 (by decide +kernel) rfl, rfl, rfl, rfl, by decide +kernel, by decide +kernel, by decide +kernel⟩, lw_goodIn 807 (by decide +kernel) rfl, lw_goodIn 808 (by decide +kernel) rfl⟩
def M_X1_living : MI := (cX1_living, 1, RX1, (some (.int)), { frames := 0, cells := 0, slots := 0, locals := 0 }, yX1_living)
theorem V_X1_living : MVV M_X1_living 0 := ⟨⟨lw_goodIn 541 (by decide +kernel) rfl, lw_goodIn 71 (by decide +kernel) rfl, rfl, rfl, rfl, by decide +kernel, by decide +kernel, by decide +kernel⟩, lw_goodIn 539 (by decide +kernel) rfl, lw_goodIn 540 (by decide +kernel) rfl⟩
def M_X1_livingAtHome : MI := (cX1_livingAtHome, 3, RX1, (some (.int)), { frames := 2, cells := 0, slots := 0, locals := 45 }, yX1_livingAtHome)
theorem V_X1_livingAtHome : MVV M_X1_livingAtHome 0 := ⟨⟨lw_goodIn 545 (by decide +kernel) rfl, lw_goodIn 71 (by decide +kernel) rfl, rfl, rfl, rfl, by decide +kernel, by decide +kernel, by decide +kernel⟩, lw_goodIn 543 (by decide +kernel) rfl, lw_goodIn 544 (by decide +kernel) rfl⟩
def M_X1_childrenOf : MI := (cX1_childrenOf, 4, RX1, (some (.int)), { frames := 1, cells := 0, slots := 0, locals := 21 }, yX1_childrenOf)
theorem V_X1_childrenOf : MVV M_X1_childrenOf 1 := ⟨⟨lw_goodIn 319 (by decide +kernel) rfl, lw_goodIn 71 (by decide +kernel) rfl, rfl, rfl, rfl, by decide +kernel, by decide +kernel, by decide +kernel⟩, lw_goodIn 317 (by decide +kernel) rfl, lw_goodIn 318 (by decide +kernel) rfl⟩
def M_X1_heldFromOthers : MI := (cX1_heldFromOthers, 4, RX1, (some (.int)), { frames := 1, cells := 0, slots := 0, locals := 21 }, yX1_heldFromOthers)
theorem V_X1_heldFromOthers : MVV M_X1_heldFromOthers 1 := ⟨⟨lw_goodIn 327 (by decide +kernel) rfl, lw_goodIn 71 (by decide +kernel) rfl, rfl, rfl, rfl, by decide +kernel, by decide +kernel, by decide +kernel⟩, lw_goodIn 325 (by decide +kernel) rfl, lw_goodIn 326 (by decide +kernel) rfl⟩
def M_X1_heldBy : MI := (cX1_heldBy, 5, RX1, (some (.int)), { frames := 1, cells := 0, slots := 0, locals := 21 }, yX1_heldBy)
theorem V_X1_heldBy : MVV M_X1_heldBy 2 := ⟨⟨lw_goodIn 496 (by decide +kernel) rfl, lw_goodIn 71 (by decide +kernel) rfl, rfl, rfl, rfl, by decide +kernel, by decide +kernel, by decide +kernel⟩, lw_goodIn 494 (by decide +kernel) rfl, lw_goodIn 495 (by decide +kernel) rfl⟩
def M_X1_pledgeHeld : MI := (cX1_pledgeHeld, 5, RX1, (some (.int)), { frames := 3, cells := 0, slots := 0, locals := 65 }, yX1_pledgeHeld)
theorem V_X1_pledgeHeld : MVV M_X1_pledgeHeld 2 := ⟨⟨lw_goodIn 446 (by decide +kernel) rfl, lw_goodIn 71 (by decide +kernel) rfl, rfl, rfl, rfl, by decide +kernel, by decide +kernel, by decide +kernel⟩, lw_goodIn 444 (by decide +kernel) rfl, lw_goodIn 445 (by decide +kernel) rfl⟩
def M_X1_lossesAbroad : MI := (cX1_lossesAbroad, 3, RX1, (some (.int)), { frames := 3, cells := 0, slots := 0, locals := 65 }, yX1_lossesAbroad)
theorem V_X1_lossesAbroad : MVV M_X1_lossesAbroad 0 := ⟨⟨lw_goodIn 833 (by decide +kernel) rfl, lw_goodIn 71 (by decide +kernel) rfl, rfl, rfl, rfl, by decide +kernel, by decide +kernel, by decide +kernel⟩, lw_goodIn 831 (by decide +kernel) rfl, lw_goodIn 832 (by decide +kernel) rfl⟩
def M_X1_wordsInForce : MI := (cX1_wordsInForce, 3, RX1, (some (.int)), { frames := 2, cells := 0, slots := 0, locals := 42 }, yX1_wordsInForce)
theorem V_X1_wordsInForce : MVV M_X1_wordsInForce 0 := ⟨⟨lw_goodIn 537 (by decide +kernel) rfl, lw_goodIn 71 (by decide +kernel) rfl, rfl, rfl, rfl, by decide +kernel, by decide +kernel, by decide +kernel⟩, lw_goodIn 535 (by decide +kernel) rfl, lw_goodIn 536 (by decide +kernel) rfl⟩
def M_X1_wordsOf : MI := (cX1_wordsOf, 4, RX1, (some (.int)), { frames := 2, cells := 0, slots := 0, locals := 42 }, yX1_wordsOf)
theorem V_X1_wordsOf : MVV M_X1_wordsOf 1 := ⟨⟨lw_goodIn 331 (by decide +kernel) rfl, lw_goodIn 71 (by decide +kernel) rfl, rfl, rfl, rfl, by decide +kernel, by decide +kernel, by decide +kernel⟩, lw_goodIn 329 (by decide +kernel) rfl, lw_goodIn 330 (by decide +kernel) rfl⟩
def M_X1_hasWord : MI := (cX1_hasWord, 4, RX1, (some (.boolean)), { frames := 2, cells := 0, slots := 0, locals := 42 }, yX1_hasWord)
theorem V_X1_hasWord : MVV M_X1_hasWord 2 := ⟨⟨lw_goodIn 599 (by decide +kernel) rfl, lw_goodIn 71 (by decide +kernel) rfl, rfl, rfl, rfl, by decide +kernel, by decide +kernel, by decide +kernel⟩, lw_goodIn 597 (by decide +kernel) rfl, lw_goodIn 598 (by decide +kernel) rfl⟩
def M_X1_easeOf : MI := (cX1_easeOf, 3, RX1, (some (.int)), { frames := 4, cells := 0, slots := 0, locals := 89 }, yX1_easeOf)
theorem V_X1_easeOf : MVV M_X1_easeOf 1 := ⟨⟨lw_goodIn 442 (by decide +kernel) rfl, lw_goodIn 71 (by decide +kernel) rfl, rfl, rfl, rfl, by decide +kernel, by decide +kernel, by decide +kernel⟩, lw_goodIn 440 (by decide +kernel) rfl, lw_goodIn 441 (by decide +kernel) rfl⟩
def M_X1_looseWords : MI := (cX1_looseWords, 3, RX1, (some (.int)), { frames := 3, cells := 0, slots := 0, locals := 68 }, yX1_looseWords)
theorem V_X1_looseWords : MVV M_X1_looseWords 0 := ⟨⟨lw_goodIn 403 (by decide +kernel) rfl, lw_goodIn 71 (by decide +kernel) rfl, rfl, rfl, rfl, by decide +kernel, by decide +kernel, by decide +kernel⟩, lw_goodIn 401 (by decide +kernel) rfl, lw_goodIn 402 (by decide +kernel) rfl⟩
def M_X1_looseWordsOf : MI := (cX1_looseWordsOf, 5, RX1, (some (.int)), { frames := 2, cells := 0, slots := 0, locals := 44 }, yX1_looseWordsOf)
theorem V_X1_looseWordsOf : MVV M_X1_looseWordsOf 1 := ⟨⟨lw_goodIn 407 (by decide +kernel) rfl, lw_goodIn 71 (by decide +kernel) rfl, rfl, rfl, rfl, by decide +kernel, by decide +kernel, by decide +kernel⟩, lw_goodIn 405 (by decide +kernel) rfl, lw_goodIn 406 (by decide +kernel) rfl⟩
def M_X1_pactPays : MI := (cX1_pactPays, 6, RX1, (some (.boolean)), { frames := 3, cells := 0, slots := 0, locals := 65 }, yX1_pactPays)
theorem V_X1_pactPays : MVV M_X1_pactPays 2 := ⟨⟨lw_goodIn 472 (by decide +kernel) rfl, lw_goodIn 71 (by decide +kernel) rfl, rfl, rfl, rfl, by decide +kernel, by decide +kernel, by decide +kernel⟩, lw_goodIn 470 (by decide +kernel) rfl, lw_goodIn 471 (by decide +kernel) rfl⟩
def M_X1_isOneOf : MI := (cX1_isOneOf, 3, RX1, (some (.boolean)), { frames := 0, cells := 0, slots := 0, locals := 0 }, yX1_isOneOf)
theorem V_X1_isOneOf : MVS M_X1_isOneOf 3 := ⟨⟨lw_goodIn 475 (by decide +kernel) rfl, lw_goodIn 71 (by decide +kernel) rfl, rfl, rfl, rfl, by decide +kernel, by decide +kernel, by decide +kernel⟩, lw_goodIn 474 (by decide +kernel) rfl⟩
def M_X1_breakWords : MI := (cX1_breakWords, 3, RX1, none, { frames := 2, cells := 0, slots := 0, locals := 45 }, yX1_breakWords)
theorem V_X1_breakWords : MVV M_X1_breakWords 1 := ⟨⟨lw_goodIn 492 (by decide +kernel) rfl, lw_goodIn 71 (by decide +kernel) rfl, rfl, rfl, rfl, by decide +kernel, by decide +kernel, by decide +kernel⟩, lw_goodIn 490 (by decide +kernel) rfl, lw_goodIn 491 (by decide +kernel) rfl⟩
def M_X1_bringDown : MI := (cX1_bringDown, 3, RX1, (some (.int)), { frames := 4, cells := 0, slots := 0, locals := 90 }, yX1_bringDown)
theorem V_X1_bringDown : MVV M_X1_bringDown 0 := ⟨⟨lw_goodIn 487 (by decide +kernel) rfl, lw_goodIn 71 (by decide +kernel) rfl, rfl, rfl, rfl, by decide +kernel, by decide +kernel, by decide +kernel⟩, lw_goodIn 485 (by decide +kernel) rfl, lw_goodIn 486 (by decide +kernel) rfl⟩
def M_X1_pass : MI := (cX1_pass, 2, RX1, none, { frames := 5, cells := 0, slots := 0, locals := 112 }, yX1_pass)
theorem V_X1_pass : MVV M_X1_pass 1 := ⟨⟨lw_goodIn 528 (by decide +kernel) rfl, lw_goodIn 71 (by decide +kernel) rfl, rfl, rfl, rfl, by decide +kernel, by decide +kernel, by decide +kernel⟩, lw_goodIn 526 (by decide +kernel) rfl, lw_goodIn 527 (by decide +kernel) rfl⟩
def M_X2_aim : MI := (cX2_aim, 5, RX2, none, { frames := 1, cells := 0, slots := 0, locals := 23 }, yX2_aim)
theorem V_X2_aim : MVV M_X2_aim 2 := ⟨⟨lw_goodIn 616 (by decide +kernel) rfl, lw_goodIn 73 (by decide +kernel) rfl, rfl, rfl, rfl, by decide +kernel, by decide +kernel, by decide +kernel⟩, lw_goodIn 614 (by decide +kernel) rfl, lw_goodIn 615 (by decide +kernel) rfl⟩
def M_X2_movesDead : MI := (cX2_movesDead, 3, RX2, (some (.boolean)), { frames := 1, cells := 0, slots := 0, locals := 21 }, yX2_movesDead)
theorem V_X2_movesDead : MVV M_X2_movesDead 1 := ⟨⟨lw_goodIn 625 (by decide +kernel) rfl, lw_goodIn 73 (by decide +kernel) rfl, rfl, rfl, rfl, by decide +kernel, by decide +kernel, by decide +kernel⟩, lw_goodIn 623 (by decide +kernel) rfl, lw_goodIn 624 (by decide +kernel) rfl⟩
def M_X2_find : MI := (cX2_find, 6, RX2, (some (.boolean)), { frames := 5, cells := 0, slots := 0, locals := 114 }, yX2_find)
theorem V_X2_find : MVV M_X2_find 1 := ⟨⟨lw_goodIn 630 (by decide +kernel) rfl, lw_goodIn 73 (by decide +kernel) rfl, rfl, rfl, rfl, by decide +kernel, by decide +kernel, by decide +kernel⟩, lw_goodIn 628 (by decide +kernel) rfl, lw_goodIn 629 (by decide +kernel) rfl⟩
def M_X2_firstStep : MI := (cX2_firstStep, 3, RX2, (some (.int)), { frames := 0, cells := 0, slots := 0, locals := 0 }, yX2_firstStep)
theorem V_X2_firstStep : MVV M_X2_firstStep 1 := ⟨⟨lw_goodIn 635 (by decide +kernel) rfl, lw_goodIn 73 (by decide +kernel) rfl, rfl, rfl, rfl, by decide +kernel, by decide +kernel, by decide +kernel⟩, lw_goodIn 634 (by decide +kernel) rfl, lw_goodIn 12 (by decide +kernel) rfl⟩
def M_X2_holdsAt : MI := (cX2_holdsAt, 5, RX2, (some (.boolean)), { frames := 4, cells := 0, slots := 0, locals := 90 }, yX2_holdsAt)
theorem V_X2_holdsAt : MVV M_X2_holdsAt 2 := ⟨⟨lw_goodIn 639 (by decide +kernel) rfl, lw_goodIn 73 (by decide +kernel) rfl, rfl, rfl, rfl, by decide +kernel, by decide +kernel, by decide +kernel⟩, lw_goodIn 638 (by decide +kernel) rfl, lw_goodIn 13 (by decide +kernel) rfl⟩
def M_X3_isMissing : MI := (cX3_isMissing, 1, RX3, (some (.boolean)), { frames := 0, cells := 0, slots := 0, locals := 0 }, yX3_isMissing)
theorem V_X3_isMissing : MVV M_X3_isMissing 0 := ⟨⟨lw_goodIn 612 (by decide +kernel) rfl, lw_goodIn 75 (by decide +kernel) rfl, rfl, rfl, rfl, by decide +kernel, by decide +kernel, by decide +kernel⟩, lw_goodIn 610 (by decide +kernel) rfl, lw_goodIn 611 (by decide +kernel) rfl⟩
def M_X3_lay : MI := (cX3_lay, 4, RX3, none, { frames := 0, cells := 0, slots := 0, locals := 0 }, yX3_lay)
theorem V_X3_lay : MVV M_X3_lay 2 := ⟨⟨lw_goodIn 778 (by decide +kernel) rfl, lw_goodIn 75 (by decide +kernel) rfl, rfl, rfl, rfl, by decide +kernel, by decide +kernel, by decide +kernel⟩, lw_goodIn 776 (by decide +kernel) rfl, lw_goodIn 777 (by decide +kernel) rfl⟩
def M_X3_put : MI := (cX3_put, 4, RX3, none, { frames := 0, cells := 0, slots := 0, locals := 0 }, yX3_put)
theorem V_X3_put : MVV M_X3_put 2 := ⟨⟨lw_goodIn 786 (by decide +kernel) rfl, lw_goodIn 75 (by decide +kernel) rfl, rfl, rfl, rfl, by decide +kernel, by decide +kernel, by decide +kernel⟩, lw_goodIn 784 (by decide +kernel) rfl, lw_goodIn 785 (by decide +kernel) rfl⟩
def M_X3_hasRow : MI := (cX3_hasRow, 3, RX3, (some (.boolean)), { frames := 0, cells := 0, slots := 0, locals := 0 }, yX3_hasRow)
theorem V_X3_hasRow : MVV M_X3_hasRow 2 := ⟨⟨lw_goodIn 794 (by decide +kernel) rfl, lw_goodIn 75 (by decide +kernel) rfl, rfl, rfl, rfl, by decide +kernel, by decide +kernel, by decide +kernel⟩, lw_goodIn 792 (by decide +kernel) rfl, lw_goodIn 793 (by decide +kernel) rfl⟩
def M_X3_holderAt : MI := (cX3_holderAt, 4, RX3, (some (.int)), { frames := 0, cells := 0, slots := 0, locals := 0 }, yX3_holderAt)
theorem V_X3_holderAt : MVV M_X3_holderAt 1 := ⟨⟨lw_goodIn 620 (by decide +kernel) rfl, lw_goodIn 75 (by decide +kernel) rfl, rfl, rfl, rfl, by decide +kernel, by decide +kernel, by decide +kernel⟩, lw_goodIn 618 (by decide +kernel) rfl, lw_goodIn 619 (by decide +kernel) rfl⟩
def M_X4_add : MI := (cX4_add, 2, RX4, none, { frames := 0, cells := 0, slots := 0, locals := 0 }, yX4_add)
theorem V_X4_add : MVV M_X4_add 1 := ⟨⟨lw_goodIn 648 (by decide +kernel) rfl, lw_goodIn 74 (by decide +kernel) rfl, rfl, rfl, rfl, by decide +kernel, by decide +kernel, by decide +kernel⟩, lw_goodIn 646 (by decide +kernel) rfl, lw_goodIn 647 (by decide +kernel) rfl⟩
def M_X4_readInto : MI := (cX4_readInto, 3, RX4, (some (.int)), { frames := 9, cells := 0, slots := 0, locals := 196 }, yX4_readInto)
theorem V_X4_readInto : MVV M_X4_readInto 1 := ⟨⟨lw_goodIn 660 (by decide +kernel) rfl, lw_goodIn 74 (by decide +kernel) rfl, rfl, rfl, rfl, by decide +kernel, by decide +kernel, by decide +kernel⟩, lw_goodIn 658 (by decide +kernel) rfl, lw_goodIn 659 (by decide +kernel) rfl⟩
def M_X4_readItem : MI := (cX4_readItem, 3, RX4, (some (.boolean)), { frames := 8, cells := 0, slots := 0, locals := 174 }, yX4_readItem)
theorem V_X4_readItem : MVV M_X4_readItem 1 := ⟨⟨lw_goodIn 677 (by decide +kernel) rfl, lw_goodIn 74 (by decide +kernel) rfl, rfl, rfl, rfl, by decide +kernel, by decide +kernel, by decide +kernel⟩, lw_goodIn 676 (by decide +kernel) rfl, lw_goodIn 15 (by decide +kernel) rfl⟩
def M_X4_readFear : MI := (cX4_readFear, 4, RX4, (some (.boolean)), { frames := 7, cells := 0, slots := 0, locals := 149 }, yX4_readFear)
theorem V_X4_readFear : MVV M_X4_readFear 1 := ⟨⟨lw_goodIn 734 (by decide +kernel) rfl, lw_goodIn 74 (by decide +kernel) rfl, rfl, rfl, rfl, by decide +kernel, by decide +kernel, by decide +kernel⟩, lw_goodIn 733 (by decide +kernel) rfl, lw_goodIn 17 (by decide +kernel) rfl⟩
def M_X4_readChild : MI := (cX4_readChild, 6, RX4, (some (.boolean)), { frames := 7, cells := 0, slots := 0, locals := 149 }, yX4_readChild)
theorem V_X4_readChild : MVV M_X4_readChild 2 := ⟨⟨lw_goodIn 765 (by decide +kernel) rfl, lw_goodIn 74 (by decide +kernel) rfl, rfl, rfl, rfl, by decide +kernel, by decide +kernel, by decide +kernel⟩, lw_goodIn 764 (by decide +kernel) rfl, lw_goodIn 21 (by decide +kernel) rfl⟩
def M_X4_readTreaty : MI := (cX4_readTreaty, 6, RX4, (some (.boolean)), { frames := 7, cells := 0, slots := 0, locals := 149 }, yX4_readTreaty)
theorem V_X4_readTreaty : MVV M_X4_readTreaty 1 := ⟨⟨lw_goodIn 748 (by decide +kernel) rfl, lw_goodIn 74 (by decide +kernel) rfl, rfl, rfl, rfl, by decide +kernel, by decide +kernel, by decide +kernel⟩, lw_goodIn 747 (by decide +kernel) rfl, lw_goodIn 20 (by decide +kernel) rfl⟩
def M_X4_takeWord : MI := (cX4_takeWord, 2, RX4, (some (.boolean)), { frames := 6, cells := 0, slots := 0, locals := 128 }, yX4_takeWord)
theorem V_X4_takeWord : MVV M_X4_takeWord 1 := ⟨⟨lw_goodIn 743 (by decide +kernel) rfl, lw_goodIn 74 (by decide +kernel) rfl, rfl, rfl, rfl, by decide +kernel, by decide +kernel, by decide +kernel⟩, lw_goodIn 742 (by decide +kernel) rfl, lw_goodIn 19 (by decide +kernel) rfl⟩
def M_X4_takeNumber : MI := (cX4_takeNumber, 3, RX4, (some (.int)), { frames := 2, cells := 0, slots := 0, locals := 41 }, yX4_takeNumber)
theorem V_X4_takeNumber : MVV M_X4_takeNumber 1 := ⟨⟨lw_goodIn 738 (by decide +kernel) rfl, lw_goodIn 74 (by decide +kernel) rfl, rfl, rfl, rfl, by decide +kernel, by decide +kernel, by decide +kernel⟩, lw_goodIn 737 (by decide +kernel) rfl, lw_goodIn 18 (by decide +kernel) rfl⟩
def M_X4_isWord : MI := (cX4_isWord, 3, RX4, (some (.boolean)), { frames := 5, cells := 0, slots := 0, locals := 106 }, yX4_isWord)
theorem V_X4_isWord : MVV M_X4_isWord 1 := ⟨⟨lw_goodIn 682 (by decide +kernel) rfl, lw_goodIn 74 (by decide +kernel) rfl, rfl, rfl, rfl, by decide +kernel, by decide +kernel, by decide +kernel⟩, lw_goodIn 681 (by decide +kernel) rfl, lw_goodIn 16 (by decide +kernel) rfl⟩
def M_X4_advance : MI := (cX4_advance, 1, RX4, none, { frames := 1, cells := 0, slots := 0, locals := 21 }, yX4_advance)
theorem V_X4_advance : MVV M_X4_advance 0 := ⟨⟨lw_goodIn 664 (by decide +kernel) rfl, lw_goodIn 74 (by decide +kernel) rfl, rfl, rfl, rfl, by decide +kernel, by decide +kernel, by decide +kernel⟩, lw_goodIn 663 (by decide +kernel) rfl, lw_goodIn 14 (by decide +kernel) rfl⟩
def M_X4_isLetter : MI := (cX4_isLetter, 1, RX4, (some (.boolean)), { frames := 0, cells := 0, slots := 0, locals := 0 }, yX4_isLetter)
theorem V_X4_isLetter : MVS M_X4_isLetter 1 := ⟨⟨lw_goodIn 667 (by decide +kernel) rfl, lw_goodIn 74 (by decide +kernel) rfl, rfl, rfl, rfl, by decide +kernel, by decide +kernel, by decide +kernel⟩, lw_goodIn 666 (by decide +kernel) rfl⟩
def M_X4_isDigit : MI := (cX4_isDigit, 1, RX4, (some (.boolean)), { frames := 0, cells := 0, slots := 0, locals := 0 }, yX4_isDigit)
theorem V_X4_isDigit : MVS M_X4_isDigit 1 := ⟨⟨lw_goodIn 670 (by decide +kernel) rfl, lw_goodIn 74 (by decide +kernel) rfl, rfl, rfl, rfl, by decide +kernel, by decide +kernel, by decide +kernel⟩, lw_goodIn 669 (by decide +kernel) rfl⟩
def M_X4_nameOfKind : MI := (cX4_nameOfKind, 1, RX4, (some ((.object "java/lang/String"))), { frames := 0, cells := 0, slots := 0, locals := 0 }, yX4_nameOfKind)
theorem V_X4_nameOfKind : MVS M_X4_nameOfKind 1 := ⟨⟨lw_goodIn 755 (by decide +kernel) rfl, lw_goodIn 74 (by decide +kernel) rfl, rfl, rfl, rfl, by decide +kernel, by decide +kernel, by decide +kernel⟩, lw_goodIn 754 (by decide +kernel) rfl⟩
def M_X5_fear : MI := (cX5_fear, 4, RX5, (some (.int)), { frames := 1, cells := 0, slots := 0, locals := 21 }, yX5_fear)
theorem V_X5_fear : MVV M_X5_fear 2 := ⟨⟨lw_goodIn 300 (by decide +kernel) rfl, lw_goodIn 70 (by decide +kernel) rfl, rfl, rfl, rfl, by decide +kernel, by decide +kernel, by decide +kernel⟩, lw_goodIn 298 (by decide +kernel) rfl, lw_goodIn 299 (by decide +kernel) rfl⟩
def M_X5_kingOf : MI := (cX5_kingOf, 3, RX5, (some (.int)), { frames := 3, cells := 0, slots := 0, locals := 65 }, yX5_kingOf)
theorem V_X5_kingOf : MVV M_X5_kingOf 2 := ⟨⟨lw_goodIn 315 (by decide +kernel) rfl, lw_goodIn 70 (by decide +kernel) rfl, rfl, rfl, rfl, by decide +kernel, by decide +kernel, by decide +kernel⟩, lw_goodIn 313 (by decide +kernel) rfl, lw_goodIn 314 (by decide +kernel) rfl⟩
def M_X5_child : MI := (cX5_child, 4, RX5, (some (.int)), { frames := 1, cells := 0, slots := 0, locals := 25 }, yX5_child)
theorem V_X5_child : MVV M_X5_child 3 := ⟨⟨lw_goodIn 343 (by decide +kernel) rfl, lw_goodIn 70 (by decide +kernel) rfl, rfl, rfl, rfl, by decide +kernel, by decide +kernel, by decide +kernel⟩, lw_goodIn 341 (by decide +kernel) rfl, lw_goodIn 342 (by decide +kernel) rfl⟩
def M_X5_of : MI := (cX5_of, 3, RX5, (some (.int)), { frames := 3, cells := 0, slots := 0, locals := 65 }, yX5_of)
theorem V_X5_of : MVV M_X5_of 2 := ⟨⟨lw_goodIn 354 (by decide +kernel) rfl, lw_goodIn 70 (by decide +kernel) rfl, rfl, rfl, rfl, by decide +kernel, by decide +kernel, by decide +kernel⟩, lw_goodIn 352 (by decide +kernel) rfl, lw_goodIn 353 (by decide +kernel) rfl⟩
def M_X5_move : MI := (cX5_move, 4, RX5, (some (.int)), { frames := 1, cells := 0, slots := 0, locals := 21 }, yX5_move)
theorem V_X5_move : MVV M_X5_move 2 := ⟨⟨lw_goodIn 378 (by decide +kernel) rfl, lw_goodIn 70 (by decide +kernel) rfl, rfl, rfl, rfl, by decide +kernel, by decide +kernel, by decide +kernel⟩, lw_goodIn 376 (by decide +kernel) rfl, lw_goodIn 377 (by decide +kernel) rfl⟩
def M_X5_worth : MI := (cX5_worth, 4, RX5, (some (.int)), { frames := 1, cells := 0, slots := 0, locals := 21 }, yX5_worth)
theorem V_X5_worth : MVV M_X5_worth 2 := ⟨⟨lw_goodIn 382 (by decide +kernel) rfl, lw_goodIn 70 (by decide +kernel) rfl, rfl, rfl, rfl, by decide +kernel, by decide +kernel, by decide +kernel⟩, lw_goodIn 380 (by decide +kernel) rfl, lw_goodIn 381 (by decide +kernel) rfl⟩
def M_X5_turn : MI := (cX5_turn, 4, RX5, (some (.int)), { frames := 1, cells := 0, slots := 0, locals := 21 }, yX5_turn)
theorem V_X5_turn : MVV M_X5_turn 2 := ⟨⟨lw_goodIn 386 (by decide +kernel) rfl, lw_goodIn 70 (by decide +kernel) rfl, rfl, rfl, rfl, by decide +kernel, by decide +kernel, by decide +kernel⟩, lw_goodIn 384 (by decide +kernel) rfl, lw_goodIn 385 (by decide +kernel) rfl⟩
def M_X5_as : MI := (cX5_as, 3, RX5, (some (.int)), { frames := 1, cells := 0, slots := 0, locals := 23 }, yX5_as)
theorem V_X5_as : MVV M_X5_as 2 := ⟨⟨lw_goodIn 390 (by decide +kernel) rfl, lw_goodIn 70 (by decide +kernel) rfl, rfl, rfl, rfl, by decide +kernel, by decide +kernel, by decide +kernel⟩, lw_goodIn 388 (by decide +kernel) rfl, lw_goodIn 389 (by decide +kernel) rfl⟩
def M_X5_dies : MI := (cX5_dies, 3, RX5, (some (.int)), { frames := 4, cells := 0, slots := 0, locals := 90 }, yX5_dies)
theorem V_X5_dies : MVV M_X5_dies 1 := ⟨⟨lw_goodIn 399 (by decide +kernel) rfl, lw_goodIn 70 (by decide +kernel) rfl, rfl, rfl, rfl, by decide +kernel, by decide +kernel, by decide +kernel⟩, lw_goodIn 397 (by decide +kernel) rfl, lw_goodIn 398 (by decide +kernel) rfl⟩
def M_X5_swap : MI := (cX5_swap, 4, RX5, (some (.int)), { frames := 1, cells := 0, slots := 0, locals := 21 }, yX5_swap)
theorem V_X5_swap : MVV M_X5_swap 2 := ⟨⟨lw_goodIn 417 (by decide +kernel) rfl, lw_goodIn 70 (by decide +kernel) rfl, rfl, rfl, rfl, by decide +kernel, by decide +kernel, by decide +kernel⟩, lw_goodIn 415 (by decide +kernel) rfl, lw_goodIn 416 (by decide +kernel) rfl⟩
def M_X5_treaty : MI := (cX5_treaty, 5, RX5, (some (.int)), { frames := 2, cells := 0, slots := 0, locals := 41 }, yX5_treaty)
theorem V_X5_treaty : MVV M_X5_treaty 4 := ⟨⟨lw_goodIn 421 (by decide +kernel) rfl, lw_goodIn 70 (by decide +kernel) rfl, rfl, rfl, rfl, by decide +kernel, by decide +kernel, by decide +kernel⟩, lw_goodIn 419 (by decide +kernel) rfl, lw_goodIn 420 (by decide +kernel) rfl⟩
def M_X5_treatyOf : MI := (cX5_treatyOf, 3, RX5, (some (.int)), { frames := 5, cells := 0, slots := 0, locals := 111 }, yX5_treatyOf)
theorem V_X5_treatyOf : MVV M_X5_treatyOf 2 := ⟨⟨lw_goodIn 432 (by decide +kernel) rfl, lw_goodIn 70 (by decide +kernel) rfl, rfl, rfl, rfl, by decide +kernel, by decide +kernel, by decide +kernel⟩, lw_goodIn 430 (by decide +kernel) rfl, lw_goodIn 431 (by decide +kernel) rfl⟩
def M_X5_gain : MI := (cX5_gain, 4, RX5, (some (.int)), { frames := 1, cells := 0, slots := 0, locals := 21 }, yX5_gain)
theorem V_X5_gain : MVV M_X5_gain 2 := ⟨⟨lw_goodIn 451 (by decide +kernel) rfl, lw_goodIn 70 (by decide +kernel) rfl, rfl, rfl, rfl, by decide +kernel, by decide +kernel, by decide +kernel⟩, lw_goodIn 449 (by decide +kernel) rfl, lw_goodIn 450 (by decide +kernel) rfl⟩
def M_X5_pledge : MI := (cX5_pledge, 3, RX5, (some (.int)), { frames := 4, cells := 0, slots := 0, locals := 89 }, yX5_pledge)
theorem V_X5_pledge : MVV M_X5_pledge 2 := ⟨⟨lw_goodIn 455 (by decide +kernel) rfl, lw_goodIn 70 (by decide +kernel) rfl, rfl, rfl, rfl, by decide +kernel, by decide +kernel, by decide +kernel⟩, lw_goodIn 453 (by decide +kernel) rfl, lw_goodIn 454 (by decide +kernel) rfl⟩
def M_X5_ease : MI := (cX5_ease, 2, RX5, (some (.int)), { frames := 5, cells := 0, slots := 0, locals := 111 }, yX5_ease)
theorem V_X5_ease : MVV M_X5_ease 1 := ⟨⟨lw_goodIn 460 (by decide +kernel) rfl, lw_goodIn 70 (by decide +kernel) rfl, rfl, rfl, rfl, by decide +kernel, by decide +kernel, by decide +kernel⟩, lw_goodIn 458 (by decide +kernel) rfl, lw_goodIn 459 (by decide +kernel) rfl⟩
def M_X5_loose : MI := (cX5_loose, 1, RX5, (some (.int)), { frames := 4, cells := 0, slots := 0, locals := 90 }, yX5_loose)
theorem V_X5_loose : MVV M_X5_loose 0 := ⟨⟨lw_goodIn 464 (by decide +kernel) rfl, lw_goodIn 70 (by decide +kernel) rfl, rfl, rfl, rfl, by decide +kernel, by decide +kernel, by decide +kernel⟩, lw_goodIn 462 (by decide +kernel) rfl, lw_goodIn 463 (by decide +kernel) rfl⟩
def M_X5_pact : MI := (cX5_pact, 3, RX5, (some (.int)), { frames := 4, cells := 0, slots := 0, locals := 90 }, yX5_pact)
theorem V_X5_pact : MVV M_X5_pact 2 := ⟨⟨lw_goodIn 468 (by decide +kernel) rfl, lw_goodIn 70 (by decide +kernel) rfl, rfl, rfl, rfl, by decide +kernel, by decide +kernel, by decide +kernel⟩, lw_goodIn 466 (by decide +kernel) rfl, lw_goodIn 467 (by decide +kernel) rfl⟩
def M_X5_plot : MI := (cX5_plot, 3, RX5, (some (.int)), { frames := 4, cells := 0, slots := 0, locals := 90 }, yX5_plot)
theorem V_X5_plot : MVV M_X5_plot 0 := ⟨⟨lw_goodIn 479 (by decide +kernel) rfl, lw_goodIn 70 (by decide +kernel) rfl, rfl, rfl, rfl, by decide +kernel, by decide +kernel, by decide +kernel⟩, lw_goodIn 477 (by decide +kernel) rfl, lw_goodIn 478 (by decide +kernel) rfl⟩
def M_X5_fall : MI := (cX5_fall, 1, RX5, (some (.int)), { frames := 5, cells := 0, slots := 0, locals := 112 }, yX5_fall)
theorem V_X5_fall : MVV M_X5_fall 0 := ⟨⟨lw_goodIn 483 (by decide +kernel) rfl, lw_goodIn 70 (by decide +kernel) rfl, rfl, rfl, rfl, by decide +kernel, by decide +kernel, by decide +kernel⟩, lw_goodIn 481 (by decide +kernel) rfl, lw_goodIn 482 (by decide +kernel) rfl⟩
def M_X5_wouldFall : MI := (cX5_wouldFall, 3, RX5, (some (.int)), { frames := 5, cells := 0, slots := 0, locals := 112 }, yX5_wouldFall)
theorem V_X5_wouldFall : MVV M_X5_wouldFall 1 := ⟨⟨lw_goodIn 500 (by decide +kernel) rfl, lw_goodIn 70 (by decide +kernel) rfl, rfl, rfl, rfl, by decide +kernel, by decide +kernel, by decide +kernel⟩, lw_goodIn 498 (by decide +kernel) rfl, lw_goodIn 499 (by decide +kernel) rfl⟩
def M_X5_pulls : MI := (cX5_pulls, 2, RX5, (some (.int)), { frames := 6, cells := 0, slots := 0, locals := 133 }, yX5_pulls)
theorem V_X5_pulls : MVV M_X5_pulls 1 := ⟨⟨lw_goodIn 511 (by decide +kernel) rfl, lw_goodIn 70 (by decide +kernel) rfl, rfl, rfl, rfl, by decide +kernel, by decide +kernel, by decide +kernel⟩, lw_goodIn 509 (by decide +kernel) rfl, lw_goodIn 510 (by decide +kernel) rfl⟩
def M_X5_keystone : MI := (cX5_keystone, 5, RX5, (some (.int)), { frames := 6, cells := 0, slots := 0, locals := 133 }, yX5_keystone)
theorem V_X5_keystone : MVV M_X5_keystone 0 := ⟨⟨lw_goodIn 520 (by decide +kernel) rfl, lw_goodIn 70 (by decide +kernel) rfl, rfl, rfl, rfl, by decide +kernel, by decide +kernel, by decide +kernel⟩, lw_goodIn 518 (by decide +kernel) rfl, lw_goodIn 519 (by decide +kernel) rfl⟩
def M_X5_months : MI := (cX5_months, 3, RX5, (some (.int)), { frames := 6, cells := 0, slots := 0, locals := 133 }, yX5_months)
theorem V_X5_months : MVV M_X5_months 1 := ⟨⟨lw_goodIn 524 (by decide +kernel) rfl, lw_goodIn 70 (by decide +kernel) rfl, rfl, rfl, rfl, by decide +kernel, by decide +kernel, by decide +kernel⟩, lw_goodIn 522 (by decide +kernel) rfl, lw_goodIn 523 (by decide +kernel) rfl⟩
def M_X5_now : MI := (cX5_now, 2, RX5, (some (.int)), { frames := 3, cells := 0, slots := 0, locals := 67 }, yX5_now)
theorem V_X5_now : MVV M_X5_now 1 := ⟨⟨lw_goodIn 533 (by decide +kernel) rfl, lw_goodIn 70 (by decide +kernel) rfl, rfl, rfl, rfl, by decide +kernel, by decide +kernel, by decide +kernel⟩, lw_goodIn 531 (by decide +kernel) rfl, lw_goodIn 532 (by decide +kernel) rfl⟩
def M_X5_on : MI := (cX5_on, 2, RX5, (some (.int)), { frames := 6, cells := 0, slots := 0, locals := 133 }, yX5_on)
theorem V_X5_on : MVV M_X5_on 1 := ⟨⟨lw_goodIn 549 (by decide +kernel) rfl, lw_goodIn 70 (by decide +kernel) rfl, rfl, rfl, rfl, by decide +kernel, by decide +kernel, by decide +kernel⟩, lw_goodIn 547 (by decide +kernel) rfl, lw_goodIn 548 (by decide +kernel) rfl⟩
def M_X5_moves : MI := (cX5_moves, 3, RX5, (some (.int)), { frames := 7, cells := 0, slots := 0, locals := 163 }, yX5_moves)
theorem V_X5_moves : MVV M_X5_moves 1 := ⟨⟨lw_goodIn 553 (by decide +kernel) rfl, lw_goodIn 70 (by decide +kernel) rfl, rfl, rfl, rfl, by decide +kernel, by decide +kernel, by decide +kernel⟩, lw_goodIn 551 (by decide +kernel) rfl, lw_goodIn 552 (by decide +kernel) rfl⟩
def M_X5_best : MI := (cX5_best, 6, RX5, (some (.int)), { frames := 4, cells := 0, slots := 0, locals := 90 }, yX5_best)
theorem V_X5_best : MVV M_X5_best 1 := ⟨⟨lw_goodIn 587 (by decide +kernel) rfl, lw_goodIn 70 (by decide +kernel) rfl, rfl, rfl, rfl, by decide +kernel, by decide +kernel, by decide +kernel⟩, lw_goodIn 585 (by decide +kernel) rfl, lw_goodIn 586 (by decide +kernel) rfl⟩
def M_X5_key : MI := (cX5_key, 7, RX5, (some (.int)), { frames := 4, cells := 0, slots := 0, locals := 90 }, yX5_key)
theorem V_X5_key : MVV M_X5_key 1 := ⟨⟨lw_goodIn 591 (by decide +kernel) rfl, lw_goodIn 70 (by decide +kernel) rfl, rfl, rfl, rfl, by decide +kernel, by decide +kernel, by decide +kernel⟩, lw_goodIn 589 (by decide +kernel) rfl, lw_goodIn 590 (by decide +kernel) rfl⟩
def M_X5_toFree : MI := (cX5_toFree, 3, RX5, (some (.int)), { frames := 3, cells := 0, slots := 0, locals := 65 }, yX5_toFree)
theorem V_X5_toFree : MVV M_X5_toFree 2 := ⟨⟨lw_goodIn 595 (by decide +kernel) rfl, lw_goodIn 70 (by decide +kernel) rfl, rfl, rfl, rfl, by decide +kernel, by decide +kernel, by decide +kernel⟩, lw_goodIn 593 (by decide +kernel) rfl, lw_goodIn 594 (by decide +kernel) rfl⟩
def M_X5_way : MI := (cX5_way, 4, RX5, (some (.int)), { frames := 6, cells := 0, slots := 0, locals := 139 }, yX5_way)
theorem V_X5_way : MVV M_X5_way 2 := ⟨⟨lw_goodIn 604 (by decide +kernel) rfl, lw_goodIn 70 (by decide +kernel) rfl, rfl, rfl, rfl, by decide +kernel, by decide +kernel, by decide +kernel⟩, lw_goodIn 602 (by decide +kernel) rfl, lw_goodIn 603 (by decide +kernel) rfl⟩
def M_X5_feed : MI := (cX5_feed, 4, RX5, (some (.int)), { frames := 1, cells := 0, slots := 0, locals := 21 }, yX5_feed)
theorem V_X5_feed : MVV M_X5_feed 2 := ⟨⟨lw_goodIn 644 (by decide +kernel) rfl, lw_goodIn 70 (by decide +kernel) rfl, rfl, rfl, rfl, by decide +kernel, by decide +kernel, by decide +kernel⟩, lw_goodIn 642 (by decide +kernel) rfl, lw_goodIn 643 (by decide +kernel) rfl⟩
def M_X5_wipe : MI := (cX5_wipe, 2, RX5, (some (.int)), { frames := 0, cells := 0, slots := 0, locals := 0 }, yX5_wipe)
theorem V_X5_wipe : MVV M_X5_wipe 0 := ⟨⟨lw_goodIn 652 (by decide +kernel) rfl, lw_goodIn 70 (by decide +kernel) rfl, rfl, rfl, rfl, by decide +kernel, by decide +kernel, by decide +kernel⟩, lw_goodIn 650 (by decide +kernel) rfl, lw_goodIn 651 (by decide +kernel) rfl⟩
def M_X5_court : MI := (cX5_court, 2, RX5, (some (.int)), { frames := 10, cells := 0, slots := 0, locals := 218 }, yX5_court)
theorem V_X5_court : MVV M_X5_court 0 := ⟨⟨lw_goodIn 656 (by decide +kernel) rfl, lw_goodIn 70 (by decide +kernel) rfl, rfl, rfl, rfl, by decide +kernel, by decide +kernel, by decide +kernel⟩, lw_goodIn 654 (by decide +kernel) rfl, lw_goodIn 655 (by decide +kernel) rfl⟩
def M_X5_sheet : MI := (cX5_sheet, 5, RX5, (some (.int)), { frames := 1, cells := 0, slots := 0, locals := 23 }, yX5_sheet)
theorem V_X5_sheet : MVV M_X5_sheet 3 := ⟨⟨lw_goodIn 774 (by decide +kernel) rfl, lw_goodIn 70 (by decide +kernel) rfl, rfl, rfl, rfl, by decide +kernel, by decide +kernel, by decide +kernel⟩, lw_goodIn 772 (by decide +kernel) rfl, lw_goodIn 773 (by decide +kernel) rfl⟩
def M_X5_write : MI := (cX5_write, 8, RX5, (some (.long)), { frames := 1, cells := 0, slots := 0, locals := 23 }, yX5_write)
theorem V_X5_write : MVV M_X5_write 3 := ⟨⟨lw_goodIn 782 (by decide +kernel) rfl, lw_goodIn 70 (by decide +kernel) rfl, rfl, rfl, rfl, by decide +kernel, by decide +kernel, by decide +kernel⟩, lw_goodIn 780 (by decide +kernel) rfl, lw_goodIn 781 (by decide +kernel) rfl⟩
def M_X5_copy : MI := (cX5_copy, 8, RX5, (some (.int)), { frames := 1, cells := 0, slots := 0, locals := 48 }, yX5_copy)
theorem V_X5_copy : MVV M_X5_copy 5 := ⟨⟨lw_goodIn 790 (by decide +kernel) rfl, lw_goodIn 70 (by decide +kernel) rfl, rfl, rfl, rfl, by decide +kernel, by decide +kernel, by decide +kernel⟩, lw_goodIn 788 (by decide +kernel) rfl, lw_goodIn 789 (by decide +kernel) rfl⟩
def M_X5_lays : MI := (cX5_lays, 6, RX5, (some (.int)), { frames := 1, cells := 0, slots := 0, locals := 23 }, yX5_lays)
theorem V_X5_lays : MVV M_X5_lays 1 := ⟨⟨lw_goodIn 799 (by decide +kernel) rfl, lw_goodIn 70 (by decide +kernel) rfl, rfl, rfl, rfl, by decide +kernel, by decide +kernel, by decide +kernel⟩, lw_goodIn 797 (by decide +kernel) rfl, lw_goodIn 798 (by decide +kernel) rfl⟩
def M_X5_roll : MI := (cX5_roll, 5, RX5, (some (.int)), { frames := 2, cells := 0, slots := 0, locals := 42 }, yX5_roll)
theorem V_X5_roll : MVV M_X5_roll 1 := ⟨⟨lw_goodIn 804 (by decide +kernel) rfl, lw_goodIn 70 (by decide +kernel) rfl, rfl, rfl, rfl, by decide +kernel, by decide +kernel, by decide +kernel⟩, lw_goodIn 802 (by decide +kernel) rfl, lw_goodIn 803 (by decide +kernel) rfl⟩
def M_X5_read : MI := (cX5_read, 5, RX5, (some (.int)), { frames := 2, cells := 0, slots := 0, locals := 42 }, yX5_read)
theorem V_X5_read : MVV M_X5_read 1 := ⟨⟨lw_goodIn 813 (by decide +kernel) rfl, lw_goodIn 70 (by decide +kernel) rfl, rfl, rfl, rfl, by decide +kernel, by decide +kernel, by decide +kernel⟩, lw_goodIn 811 (by decide +kernel) rfl, lw_goodIn 812 (by decide +kernel) rfl⟩
def M_X5_image : MI := (cX5_image, 1, RX5, (some (.int)), { frames := 2, cells := 0, slots := 0, locals := 69 }, yX5_image)
theorem V_X5_image : MVV M_X5_image 0 := ⟨⟨lw_goodIn 817 (by decide +kernel) rfl, lw_goodIn 70 (by decide +kernel) rfl, rfl, rfl, rfl, by decide +kernel, by decide +kernel, by decide +kernel⟩, lw_goodIn 815 (by decide +kernel) rfl, lw_goodIn 816 (by decide +kernel) rfl⟩
def M_X5_undo : MI := (cX5_undo, 1, RX5, (some (.int)), { frames := 2, cells := 0, slots := 0, locals := 69 }, yX5_undo)
theorem V_X5_undo : MVV M_X5_undo 0 := ⟨⟨lw_goodIn 821 (by decide +kernel) rfl, lw_goodIn 70 (by decide +kernel) rfl, rfl, rfl, rfl, by decide +kernel, by decide +kernel, by decide +kernel⟩, lw_goodIn 819 (by decide +kernel) rfl, lw_goodIn 820 (by decide +kernel) rfl⟩
def M_X5_tear : MI := (cX5_tear, 2, RX5, (some (.int)), { frames := 0, cells := 0, slots := 0, locals := 0 }, yX5_tear)
theorem V_X5_tear : MVV M_X5_tear 0 := ⟨⟨lw_goodIn 825 (by decide +kernel) rfl, lw_goodIn 70 (by decide +kernel) rfl, rfl, rfl, rfl, by decide +kernel, by decide +kernel, by decide +kernel⟩, lw_goodIn 823 (by decide +kernel) rfl, lw_goodIn 824 (by decide +kernel) rfl⟩
def M_X5_count : MI := (cX5_count, 2, RX5, (some (.int)), { frames := 4, cells := 0, slots := 0, locals := 87 }, yX5_count)
theorem V_X5_count : MVV M_X5_count 1 := ⟨⟨lw_goodIn 829 (by decide +kernel) rfl, lw_goodIn 70 (by decide +kernel) rfl, rfl, rfl, rfl, by decide +kernel, by decide +kernel, by decide +kernel⟩, lw_goodIn 827 (by decide +kernel) rfl, lw_goodIn 828 (by decide +kernel) rfl⟩
def M_X5_status : MI := (cX5_status, 4, RX5, (some (.int)), { frames := 1, cells := 0, slots := 0, locals := 21 }, yX5_status)
theorem V_X5_status : MVV M_X5_status 1 := ⟨⟨lw_goodIn 837 (by decide +kernel) rfl, lw_goodIn 70 (by decide +kernel) rfl, rfl, rfl, rfl, by decide +kernel, by decide +kernel, by decide +kernel⟩, lw_goodIn 835 (by decide +kernel) rfl, lw_goodIn 836 (by decide +kernel) rfl⟩
def M_X5_finding : MI := (cX5_finding, 2, RX5, (some (.int)), { frames := 0, cells := 0, slots := 0, locals := 0 }, yX5_finding)
theorem V_X5_finding : MVV M_X5_finding 1 := ⟨⟨lw_goodIn 310 (by decide +kernel) rfl, lw_goodIn 70 (by decide +kernel) rfl, rfl, rfl, rfl, by decide +kernel, by decide +kernel, by decide +kernel⟩, lw_goodIn 309 (by decide +kernel) rfl, lw_goodIn 0 (by decide +kernel) rfl⟩
def M_X5_isWithin : MI := (cX5_isWithin, 2, RX5, (some (.boolean)), { frames := 0, cells := 0, slots := 0, locals := 0 }, yX5_isWithin)
theorem V_X5_isWithin : MVS M_X5_isWithin 2 := ⟨⟨lw_goodIn 306 (by decide +kernel) rfl, lw_goodIn 70 (by decide +kernel) rfl, rfl, rfl, rfl, by decide +kernel, by decide +kernel, by decide +kernel⟩, lw_goodIn 305 (by decide +kernel) rfl⟩
def M_X5_isKing : MI := (cX5_isKing, 1, RX5, (some (.boolean)), { frames := 0, cells := 0, slots := 0, locals := 0 }, yX5_isKing)
theorem V_X5_isKing : MVS M_X5_isKing 1 := ⟨⟨lw_goodIn 303 (by decide +kernel) rfl, lw_goodIn 70 (by decide +kernel) rfl, rfl, rfl, rfl, by decide +kernel, by decide +kernel, by decide +kernel⟩, lw_goodIn 302 (by decide +kernel) rfl⟩
def M_X5_areTwoKings : MI := (cX5_areTwoKings, 2, RX5, (some (.boolean)), { frames := 1, cells := 0, slots := 0, locals := 20 }, yX5_areTwoKings)
theorem V_X5_areTwoKings : MVS M_X5_areTwoKings 2 := ⟨⟨lw_goodIn 424 (by decide +kernel) rfl, lw_goodIn 70 (by decide +kernel) rfl, rfl, rfl, rfl, by decide +kernel, by decide +kernel, by decide +kernel⟩, lw_goodIn 423 (by decide +kernel) rfl⟩
def M_X5_isKind : MI := (cX5_isKind, 1, RX5, (some (.boolean)), { frames := 0, cells := 0, slots := 0, locals := 0 }, yX5_isKind)
theorem V_X5_isKind : MVS M_X5_isKind 1 := ⟨⟨lw_goodIn 346 (by decide +kernel) rfl, lw_goodIn 70 (by decide +kernel) rfl, rfl, rfl, rfl, by decide +kernel, by decide +kernel, by decide +kernel⟩, lw_goodIn 345 (by decide +kernel) rfl⟩
def M_X5_isChild : MI := (cX5_isChild, 2, RX5, (some (.boolean)), { frames := 0, cells := 0, slots := 0, locals := 0 }, yX5_isChild)
theorem V_X5_isChild : MVV M_X5_isChild 1 := ⟨⟨lw_goodIn 358 (by decide +kernel) rfl, lw_goodIn 70 (by decide +kernel) rfl, rfl, rfl, rfl, by decide +kernel, by decide +kernel, by decide +kernel⟩, lw_goodIn 357 (by decide +kernel) rfl, lw_goodIn 1 (by decide +kernel) rfl⟩
def M_X5_isTreaty : MI := (cX5_isTreaty, 2, RX5, (some (.boolean)), { frames := 0, cells := 0, slots := 0, locals := 0 }, yX5_isTreaty)
theorem V_X5_isTreaty : MVV M_X5_isTreaty 1 := ⟨⟨lw_goodIn 436 (by decide +kernel) rfl, lw_goodIn 70 (by decide +kernel) rfl, rfl, rfl, rfl, by decide +kernel, by decide +kernel, by decide +kernel⟩, lw_goodIn 435 (by decide +kernel) rfl, lw_goodIn 4 (by decide +kernel) rfl⟩
def M_X5_isKindUnder : MI := (cX5_isKindUnder, 4, RX5, (some (.boolean)), { frames := 0, cells := 0, slots := 0, locals := 0 }, yX5_isKindUnder)
theorem V_X5_isKindUnder : MVS M_X5_isKindUnder 2 := ⟨⟨lw_goodIn 393 (by decide +kernel) rfl, lw_goodIn 70 (by decide +kernel) rfl, rfl, rfl, rfl, by decide +kernel, by decide +kernel, by decide +kernel⟩, lw_goodIn 392 (by decide +kernel) rfl⟩
def M_X5_sheetAt : MI := (cX5_sheetAt, 2, RX5, (some ((.object "HostageKings$Sheet"))), { frames := 0, cells := 0, slots := 0, locals := 0 }, yX5_sheetAt)
theorem V_X5_sheetAt : MVV M_X5_sheetAt 1 := ⟨⟨lw_goodIn 608 (by decide +kernel) rfl, lw_goodIn 70 (by decide +kernel) rfl, rfl, rfl, rfl, by decide +kernel, by decide +kernel, by decide +kernel⟩, lw_goodIn 607 (by decide +kernel) rfl, lw_goodIn 11 (by decide +kernel) rfl⟩
def M_X5_broughtDownWith : MI := (cX5_broughtDownWith, 2, RX5, (some (.int)), { frames := 5, cells := 0, slots := 0, locals := 112 }, yX5_broughtDownWith)
theorem V_X5_broughtDownWith : MVV M_X5_broughtDownWith 1 := ⟨⟨lw_goodIn 515 (by decide +kernel) rfl, lw_goodIn 70 (by decide +kernel) rfl, rfl, rfl, rfl, by decide +kernel, by decide +kernel, by decide +kernel⟩, lw_goodIn 514 (by decide +kernel) rfl, lw_goodIn 5 (by decide +kernel) rfl⟩
def M_X6_in : MI := (cX6_in, 3, RX6, (some (.boolean)), { frames := 0, cells := 0, slots := 0, locals := 0 }, yX6_in)
theorem V_X6_in : MVS M_X6_in 3 := ⟨⟨lw_goodIn 977 (by decide +kernel) rfl, lw_goodIn 76 (by decide +kernel) rfl, rfl, rfl, rfl, by decide +kernel, by decide +kernel, by decide +kernel⟩, lw_goodIn 976 (by decide +kernel) rfl⟩
def M_X6_finds : MI := (cX6_finds, 2, RX6, (some (.int)), { frames := 0, cells := 0, slots := 0, locals := 0 }, yX6_finds)
theorem V_X6_finds : MVV M_X6_finds 1 := ⟨⟨lw_goodIn 985 (by decide +kernel) rfl, lw_goodIn 76 (by decide +kernel) rfl, rfl, rfl, rfl, by decide +kernel, by decide +kernel, by decide +kernel⟩, lw_goodIn 984 (by decide +kernel) rfl, lw_goodIn 22 (by decide +kernel) rfl⟩
def M_X6_isKing : MI := (cX6_isKing, 1, RX6, (some (.boolean)), { frames := 1, cells := 0, slots := 0, locals := 22 }, yX6_isKing)
theorem V_X6_isKing : MVS M_X6_isKing 1 := ⟨⟨lw_goodIn 974 (by decide +kernel) rfl, lw_goodIn 76 (by decide +kernel) rfl, rfl, rfl, rfl, by decide +kernel, by decide +kernel, by decide +kernel⟩, lw_goodIn 973 (by decide +kernel) rfl⟩
def M_X6_isChild : MI := (cX6_isChild, 2, RX6, (some (.boolean)), { frames := 1, cells := 0, slots := 0, locals := 22 }, yX6_isChild)
theorem V_X6_isChild : MVV M_X6_isChild 1 := ⟨⟨lw_goodIn 1025 (by decide +kernel) rfl, lw_goodIn 76 (by decide +kernel) rfl, rfl, rfl, rfl, by decide +kernel, by decide +kernel, by decide +kernel⟩, lw_goodIn 1024 (by decide +kernel) rfl, lw_goodIn 28 (by decide +kernel) rfl⟩
def M_X6_isKind : MI := (cX6_isKind, 1, RX6, (some (.boolean)), { frames := 1, cells := 0, slots := 0, locals := 22 }, yX6_isKind)
theorem V_X6_isKind : MVS M_X6_isKind 1 := ⟨⟨lw_goodIn 1012 (by decide +kernel) rfl, lw_goodIn 76 (by decide +kernel) rfl, rfl, rfl, rfl, by decide +kernel, by decide +kernel, by decide +kernel⟩, lw_goodIn 1011 (by decide +kernel) rfl⟩
def M_X6_isTold : MI := (cX6_isTold, 1, RX6, (some (.boolean)), { frames := 1, cells := 0, slots := 0, locals := 22 }, yX6_isTold)
theorem V_X6_isTold : MVS M_X6_isTold 1 := ⟨⟨lw_goodIn 980 (by decide +kernel) rfl, lw_goodIn 76 (by decide +kernel) rfl, rfl, rfl, rfl, by decide +kernel, by decide +kernel, by decide +kernel⟩, lw_goodIn 979 (by decide +kernel) rfl⟩
def M_X6_isLong : MI := (cX6_isLong, 1, RX6, (some (.boolean)), { frames := 1, cells := 0, slots := 0, locals := 22 }, yX6_isLong)
theorem V_X6_isLong : MVS M_X6_isLong 1 := ⟨⟨lw_goodIn 1084 (by decide +kernel) rfl, lw_goodIn 76 (by decide +kernel) rfl, rfl, rfl, rfl, by decide +kernel, by decide +kernel, by decide +kernel⟩, lw_goodIn 1083 (by decide +kernel) rfl⟩
def M_X6_isTreaty : MI := (cX6_isTreaty, 2, RX6, (some (.boolean)), { frames := 1, cells := 0, slots := 0, locals := 22 }, yX6_isTreaty)
theorem V_X6_isTreaty : MVV M_X6_isTreaty 1 := ⟨⟨lw_goodIn 1096 (by decide +kernel) rfl, lw_goodIn 76 (by decide +kernel) rfl, rfl, rfl, rfl, by decide +kernel, by decide +kernel, by decide +kernel⟩, lw_goodIn 1095 (by decide +kernel) rfl, lw_goodIn 35 (by decide +kernel) rfl⟩
def M_X6_has : MI := (cX6_has, 2, RX6, (some (.boolean)), { frames := 0, cells := 0, slots := 0, locals := 0 }, yX6_has)
theorem V_X6_has : MVS M_X6_has 2 := ⟨⟨lw_goodIn 1099 (by decide +kernel) rfl, lw_goodIn 76 (by decide +kernel) rfl, rfl, rfl, rfl, by decide +kernel, by decide +kernel, by decide +kernel⟩, lw_goodIn 1098 (by decide +kernel) rfl⟩
def M_X6_ones : MI := (cX6_ones, 3, RX6, (some (.int)), { frames := 0, cells := 0, slots := 0, locals := 0 }, yX6_ones)
theorem V_X6_ones : MVS M_X6_ones 1 := ⟨⟨lw_goodIn 1073 (by decide +kernel) rfl, lw_goodIn 76 (by decide +kernel) rfl, rfl, rfl, rfl, by decide +kernel, by decide +kernel, by decide +kernel⟩, lw_goodIn 1072 (by decide +kernel) rfl⟩
def M_X6_lives : MI := (cX6_lives, 2, RX6, (some (.boolean)), { frames := 0, cells := 0, slots := 0, locals := 0 }, yX6_lives)
theorem V_X6_lives : MVV M_X6_lives 1 := ⟨⟨lw_goodIn 1005 (by decide +kernel) rfl, lw_goodIn 76 (by decide +kernel) rfl, rfl, rfl, rfl, by decide +kernel, by decide +kernel, by decide +kernel⟩, lw_goodIn 1004 (by decide +kernel) rfl, lw_goodIn 26 (by decide +kernel) rfl⟩
def M_X6_holder : MI := (cX6_holder, 2, RX6, (some (.int)), { frames := 0, cells := 0, slots := 0, locals := 0 }, yX6_holder)
theorem V_X6_holder : MVV M_X6_holder 1 := ⟨⟨lw_goodIn 997 (by decide +kernel) rfl, lw_goodIn 76 (by decide +kernel) rfl, rfl, rfl, rfl, by decide +kernel, by decide +kernel, by decide +kernel⟩, lw_goodIn 996 (by decide +kernel) rfl, lw_goodIn 24 (by decide +kernel) rfl⟩
def M_X6_isHome : MI := (cX6_isHome, 2, RX6, (some (.boolean)), { frames := 1, cells := 0, slots := 0, locals := 21 }, yX6_isHome)
theorem V_X6_isHome : MVV M_X6_isHome 1 := ⟨⟨lw_goodIn 1001 (by decide +kernel) rfl, lw_goodIn 76 (by decide +kernel) rfl, rfl, rfl, rfl, by decide +kernel, by decide +kernel, by decide +kernel⟩, lw_goodIn 1000 (by decide +kernel) rfl, lw_goodIn 25 (by decide +kernel) rfl⟩
def M_X6_isInForce : MI := (cX6_isInForce, 2, RX6, (some (.boolean)), { frames := 0, cells := 0, slots := 0, locals := 0 }, yX6_isInForce)
theorem V_X6_isInForce : MVV M_X6_isInForce 1 := ⟨⟨lw_goodIn 993 (by decide +kernel) rfl, lw_goodIn 76 (by decide +kernel) rfl, rfl, rfl, rfl, by decide +kernel, by decide +kernel, by decide +kernel⟩, lw_goodIn 992 (by decide +kernel) rfl, lw_goodIn 23 (by decide +kernel) rfl⟩
def M_X6_hasTwinAtHome : MI := (cX6_hasTwinAtHome, 4, RX6, (some (.boolean)), { frames := 2, cells := 0, slots := 0, locals := 42 }, yX6_hasTwinAtHome)
theorem V_X6_hasTwinAtHome : MVV M_X6_hasTwinAtHome 1 := ⟨⟨lw_goodIn 1033 (by decide +kernel) rfl, lw_goodIn 76 (by decide +kernel) rfl, rfl, rfl, rfl, by decide +kernel, by decide +kernel, by decide +kernel⟩, lw_goodIn 1032 (by decide +kernel) rfl, lw_goodIn 30 (by decide +kernel) rfl⟩
def M_X6_loss : MI := (cX6_loss, 3, RX6, (some (.int)), { frames := 3, cells := 0, slots := 0, locals := 65 }, yX6_loss)
theorem V_X6_loss : MVV M_X6_loss 1 := ⟨⟨lw_goodIn 1029 (by decide +kernel) rfl, lw_goodIn 76 (by decide +kernel) rfl, rfl, rfl, rfl, by decide +kernel, by decide +kernel, by decide +kernel⟩, lw_goodIn 1028 (by decide +kernel) rfl, lw_goodIn 29 (by decide +kernel) rfl⟩
def M_X6_findPledges : MI := (cX6_findPledges, 2, RX6, none, { frames := 4, cells := 0, slots := 0, locals := 87 }, yX6_findPledges)
theorem V_X6_findPledges : MVV M_X6_findPledges 0 := ⟨⟨lw_goodIn 1066 (by decide +kernel) rfl, lw_goodIn 76 (by decide +kernel) rfl, rfl, rfl, rfl, by decide +kernel, by decide +kernel, by decide +kernel⟩, lw_goodIn 1065 (by decide +kernel) rfl, lw_goodIn 32 (by decide +kernel) rfl⟩
def M_X6_easeOf : MI := (cX6_easeOf, 2, RX6, (some (.int)), { frames := 0, cells := 0, slots := 0, locals := 0 }, yX6_easeOf)
theorem V_X6_easeOf : MVV M_X6_easeOf 1 := ⟨⟨lw_goodIn 1070 (by decide +kernel) rfl, lw_goodIn 76 (by decide +kernel) rfl, rfl, rfl, rfl, by decide +kernel, by decide +kernel, by decide +kernel⟩, lw_goodIn 1069 (by decide +kernel) rfl, lw_goodIn 33 (by decide +kernel) rfl⟩
def M_X6_looseSet : MI := (cX6_looseSet, 3, RX6, (some (.int)), { frames := 5, cells := 0, slots := 0, locals := 108 }, yX6_looseSet)
theorem V_X6_looseSet : MVV M_X6_looseSet 0 := ⟨⟨lw_goodIn 1062 (by decide +kernel) rfl, lw_goodIn 76 (by decide +kernel) rfl, rfl, rfl, rfl, by decide +kernel, by decide +kernel, by decide +kernel⟩, lw_goodIn 1061 (by decide +kernel) rfl, lw_goodIn 31 (by decide +kernel) rfl⟩
def M_X6_forceSet : MI := (cX6_forceSet, 3, RX6, (some (.int)), { frames := 1, cells := 0, slots := 0, locals := 21 }, yX6_forceSet)
theorem V_X6_forceSet : MVV M_X6_forceSet 0 := ⟨⟨lw_goodIn 1191 (by decide +kernel) rfl, lw_goodIn 76 (by decide +kernel) rfl, rfl, rfl, rfl, by decide +kernel, by decide +kernel, by decide +kernel⟩, lw_goodIn 1190 (by decide +kernel) rfl, lw_goodIn 45 (by decide +kernel) rfl⟩
def M_X6_held : MI := (cX6_held, 5, RX6, (some (.int)), { frames := 1, cells := 0, slots := 0, locals := 21 }, yX6_held)
theorem V_X6_held : MVV M_X6_held 2 := ⟨⟨lw_goodIn 1231 (by decide +kernel) rfl, lw_goodIn 76 (by decide +kernel) rfl, rfl, rfl, rfl, by decide +kernel, by decide +kernel, by decide +kernel⟩, lw_goodIn 1230 (by decide +kernel) rfl, lw_goodIn 50 (by decide +kernel) rfl⟩
def M_X6_deadSet : MI := (cX6_deadSet, 3, RX6, (some (.int)), { frames := 1, cells := 0, slots := 0, locals := 21 }, yX6_deadSet)
theorem V_X6_deadSet : MVV M_X6_deadSet 0 := ⟨⟨lw_goodIn 1151 (by decide +kernel) rfl, lw_goodIn 76 (by decide +kernel) rfl, rfl, rfl, rfl, by decide +kernel, by decide +kernel, by decide +kernel⟩, lw_goodIn 1150 (by decide +kernel) rfl, lw_goodIn 39 (by decide +kernel) rfl⟩
def M_X6_fear : MI := (cX6_fear, 4, RX6, (some (.int)), { frames := 2, cells := 0, slots := 0, locals := 42 }, yX6_fear)
theorem V_X6_fear : MVV M_X6_fear 2 := ⟨⟨lw_goodIn 971 (by decide +kernel) rfl, lw_goodIn 76 (by decide +kernel) rfl, rfl, rfl, rfl, by decide +kernel, by decide +kernel, by decide +kernel⟩, lw_goodIn 969 (by decide +kernel) rfl, lw_goodIn 970 (by decide +kernel) rfl⟩
def M_X6_kingOf : MI := (cX6_kingOf, 6, RX6, (some (.int)), { frames := 2, cells := 0, slots := 0, locals := 42 }, yX6_kingOf)
theorem V_X6_kingOf : MVV M_X6_kingOf 2 := ⟨⟨lw_goodIn 989 (by decide +kernel) rfl, lw_goodIn 76 (by decide +kernel) rfl, rfl, rfl, rfl, by decide +kernel, by decide +kernel, by decide +kernel⟩, lw_goodIn 987 (by decide +kernel) rfl, lw_goodIn 988 (by decide +kernel) rfl⟩
def M_X6_addChild : MI := (cX6_addChild, 5, RX6, none, { frames := 0, cells := 0, slots := 0, locals := 0 }, yX6_addChild)
theorem V_X6_addChild : MVV M_X6_addChild 4 := ⟨⟨lw_goodIn 1017 (by decide +kernel) rfl, lw_goodIn 76 (by decide +kernel) rfl, rfl, rfl, rfl, by decide +kernel, by decide +kernel, by decide +kernel⟩, lw_goodIn 1016 (by decide +kernel) rfl, lw_goodIn 27 (by decide +kernel) rfl⟩
def M_X6_child : MI := (cX6_child, 4, RX6, (some (.int)), { frames := 2, cells := 0, slots := 0, locals := 42 }, yX6_child)
theorem V_X6_child : MVV M_X6_child 3 := ⟨⟨lw_goodIn 1009 (by decide +kernel) rfl, lw_goodIn 76 (by decide +kernel) rfl, rfl, rfl, rfl, by decide +kernel, by decide +kernel, by decide +kernel⟩, lw_goodIn 1007 (by decide +kernel) rfl, lw_goodIn 1008 (by decide +kernel) rfl⟩
def M_X6_of : MI := (cX6_of, 3, RX6, (some (.int)), { frames := 4, cells := 0, slots := 0, locals := 87 }, yX6_of)
theorem V_X6_of : MVV M_X6_of 2 := ⟨⟨lw_goodIn 1021 (by decide +kernel) rfl, lw_goodIn 76 (by decide +kernel) rfl, rfl, rfl, rfl, by decide +kernel, by decide +kernel, by decide +kernel⟩, lw_goodIn 1019 (by decide +kernel) rfl, lw_goodIn 1020 (by decide +kernel) rfl⟩
def M_X6_move : MI := (cX6_move, 4, RX6, (some (.int)), { frames := 2, cells := 0, slots := 0, locals := 43 }, yX6_move)
theorem V_X6_move : MVV M_X6_move 2 := ⟨⟨lw_goodIn 1037 (by decide +kernel) rfl, lw_goodIn 76 (by decide +kernel) rfl, rfl, rfl, rfl, by decide +kernel, by decide +kernel, by decide +kernel⟩, lw_goodIn 1035 (by decide +kernel) rfl, lw_goodIn 1036 (by decide +kernel) rfl⟩
def M_X6_worth : MI := (cX6_worth, 4, RX6, (some (.int)), { frames := 2, cells := 0, slots := 0, locals := 43 }, yX6_worth)
theorem V_X6_worth : MVV M_X6_worth 2 := ⟨⟨lw_goodIn 1042 (by decide +kernel) rfl, lw_goodIn 76 (by decide +kernel) rfl, rfl, rfl, rfl, by decide +kernel, by decide +kernel, by decide +kernel⟩, lw_goodIn 1040 (by decide +kernel) rfl, lw_goodIn 1041 (by decide +kernel) rfl⟩
def M_X6_turn : MI := (cX6_turn, 4, RX6, (some (.int)), { frames := 2, cells := 0, slots := 0, locals := 43 }, yX6_turn)
theorem V_X6_turn : MVV M_X6_turn 2 := ⟨⟨lw_goodIn 1046 (by decide +kernel) rfl, lw_goodIn 76 (by decide +kernel) rfl, rfl, rfl, rfl, by decide +kernel, by decide +kernel, by decide +kernel⟩, lw_goodIn 1044 (by decide +kernel) rfl, lw_goodIn 1045 (by decide +kernel) rfl⟩
def M_X6_isUnder : MI := (cX6_isUnder, 2, RX6, (some (.boolean)), { frames := 0, cells := 0, slots := 0, locals := 0 }, yX6_isUnder)
theorem V_X6_isUnder : MVS M_X6_isUnder 2 := ⟨⟨lw_goodIn 1053 (by decide +kernel) rfl, lw_goodIn 76 (by decide +kernel) rfl, rfl, rfl, rfl, by decide +kernel, by decide +kernel, by decide +kernel⟩, lw_goodIn 1052 (by decide +kernel) rfl⟩
def M_X6_as : MI := (cX6_as, 3, RX6, (some (.int)), { frames := 2, cells := 0, slots := 0, locals := 43 }, yX6_as)
theorem V_X6_as : MVV M_X6_as 2 := ⟨⟨lw_goodIn 1050 (by decide +kernel) rfl, lw_goodIn 76 (by decide +kernel) rfl, rfl, rfl, rfl, by decide +kernel, by decide +kernel, by decide +kernel⟩, lw_goodIn 1048 (by decide +kernel) rfl, lw_goodIn 1049 (by decide +kernel) rfl⟩
def M_X6_dies : MI := (cX6_dies, 3, RX6, (some (.int)), { frames := 6, cells := 0, slots := 0, locals := 130 }, yX6_dies)
theorem V_X6_dies : MVV M_X6_dies 1 := ⟨⟨lw_goodIn 1058 (by decide +kernel) rfl, lw_goodIn 76 (by decide +kernel) rfl, rfl, rfl, rfl, by decide +kernel, by decide +kernel, by decide +kernel⟩, lw_goodIn 1056 (by decide +kernel) rfl, lw_goodIn 1057 (by decide +kernel) rfl⟩
def M_X6_swap : MI := (cX6_swap, 4, RX6, (some (.int)), { frames := 2, cells := 0, slots := 0, locals := 43 }, yX6_swap)
theorem V_X6_swap : MVV M_X6_swap 2 := ⟨⟨lw_goodIn 1077 (by decide +kernel) rfl, lw_goodIn 76 (by decide +kernel) rfl, rfl, rfl, rfl, by decide +kernel, by decide +kernel, by decide +kernel⟩, lw_goodIn 1075 (by decide +kernel) rfl, lw_goodIn 1076 (by decide +kernel) rfl⟩
def M_X6_addTreaty : MI := (cX6_addTreaty, 5, RX6, none, { frames := 0, cells := 0, slots := 0, locals := 0 }, yX6_addTreaty)
theorem V_X6_addTreaty : MVV M_X6_addTreaty 4 := ⟨⟨lw_goodIn 1088 (by decide +kernel) rfl, lw_goodIn 76 (by decide +kernel) rfl, rfl, rfl, rfl, by decide +kernel, by decide +kernel, by decide +kernel⟩, lw_goodIn 1087 (by decide +kernel) rfl, lw_goodIn 34 (by decide +kernel) rfl⟩
def M_X6_treaty : MI := (cX6_treaty, 5, RX6, (some (.int)), { frames := 2, cells := 0, slots := 0, locals := 42 }, yX6_treaty)
theorem V_X6_treaty : MVV M_X6_treaty 4 := ⟨⟨lw_goodIn 1081 (by decide +kernel) rfl, lw_goodIn 76 (by decide +kernel) rfl, rfl, rfl, rfl, by decide +kernel, by decide +kernel, by decide +kernel⟩, lw_goodIn 1079 (by decide +kernel) rfl, lw_goodIn 1080 (by decide +kernel) rfl⟩
def M_X6_treatyOf : MI := (cX6_treatyOf, 3, RX6, (some (.int)), { frames := 6, cells := 0, slots := 0, locals := 130 }, yX6_treatyOf)
theorem V_X6_treatyOf : MVV M_X6_treatyOf 2 := ⟨⟨lw_goodIn 1092 (by decide +kernel) rfl, lw_goodIn 76 (by decide +kernel) rfl, rfl, rfl, rfl, by decide +kernel, by decide +kernel, by decide +kernel⟩, lw_goodIn 1090 (by decide +kernel) rfl, lw_goodIn 1091 (by decide +kernel) rfl⟩
def M_X6_gain : MI := (cX6_gain, 4, RX6, (some (.int)), { frames := 2, cells := 0, slots := 0, locals := 43 }, yX6_gain)
theorem V_X6_gain : MVV M_X6_gain 2 := ⟨⟨lw_goodIn 1103 (by decide +kernel) rfl, lw_goodIn 76 (by decide +kernel) rfl, rfl, rfl, rfl, by decide +kernel, by decide +kernel, by decide +kernel⟩, lw_goodIn 1101 (by decide +kernel) rfl, lw_goodIn 1102 (by decide +kernel) rfl⟩
def M_X6_areTwo : MI := (cX6_areTwo, 2, RX6, (some (.boolean)), { frames := 2, cells := 0, slots := 0, locals := 42 }, yX6_areTwo)
theorem V_X6_areTwo : MVS M_X6_areTwo 2 := ⟨⟨lw_goodIn 1110 (by decide +kernel) rfl, lw_goodIn 76 (by decide +kernel) rfl, rfl, rfl, rfl, by decide +kernel, by decide +kernel, by decide +kernel⟩, lw_goodIn 1109 (by decide +kernel) rfl⟩
def M_X6_pledge : MI := (cX6_pledge, 3, RX6, (some (.int)), { frames := 5, cells := 0, slots := 0, locals := 108 }, yX6_pledge)
theorem V_X6_pledge : MVV M_X6_pledge 2 := ⟨⟨lw_goodIn 1107 (by decide +kernel) rfl, lw_goodIn 76 (by decide +kernel) rfl, rfl, rfl, rfl, by decide +kernel, by decide +kernel, by decide +kernel⟩, lw_goodIn 1105 (by decide +kernel) rfl, lw_goodIn 1106 (by decide +kernel) rfl⟩
def M_X6_ease : MI := (cX6_ease, 2, RX6, (some (.int)), { frames := 5, cells := 0, slots := 0, locals := 108 }, yX6_ease)
theorem V_X6_ease : MVV M_X6_ease 1 := ⟨⟨lw_goodIn 1114 (by decide +kernel) rfl, lw_goodIn 76 (by decide +kernel) rfl, rfl, rfl, rfl, by decide +kernel, by decide +kernel, by decide +kernel⟩, lw_goodIn 1112 (by decide +kernel) rfl, lw_goodIn 1113 (by decide +kernel) rfl⟩
def M_X6_loose : MI := (cX6_loose, 1, RX6, (some (.int)), { frames := 6, cells := 0, slots := 0, locals := 130 }, yX6_loose)
theorem V_X6_loose : MVV M_X6_loose 0 := ⟨⟨lw_goodIn 1118 (by decide +kernel) rfl, lw_goodIn 76 (by decide +kernel) rfl, rfl, rfl, rfl, by decide +kernel, by decide +kernel, by decide +kernel⟩, lw_goodIn 1116 (by decide +kernel) rfl, lw_goodIn 1117 (by decide +kernel) rfl⟩
def M_X6_pays : MI := (cX6_pays, 6, RX6, (some (.boolean)), { frames := 1, cells := 0, slots := 0, locals := 21 }, yX6_pays)
theorem V_X6_pays : MVV M_X6_pays 2 := ⟨⟨lw_goodIn 1126 (by decide +kernel) rfl, lw_goodIn 76 (by decide +kernel) rfl, rfl, rfl, rfl, by decide +kernel, by decide +kernel, by decide +kernel⟩, lw_goodIn 1125 (by decide +kernel) rfl, lw_goodIn 36 (by decide +kernel) rfl⟩
def M_X6_pact : MI := (cX6_pact, 3, RX6, (some (.int)), { frames := 5, cells := 0, slots := 0, locals := 108 }, yX6_pact)
theorem V_X6_pact : MVV M_X6_pact 2 := ⟨⟨lw_goodIn 1122 (by decide +kernel) rfl, lw_goodIn 76 (by decide +kernel) rfl, rfl, rfl, rfl, by decide +kernel, by decide +kernel, by decide +kernel⟩, lw_goodIn 1120 (by decide +kernel) rfl, lw_goodIn 1121 (by decide +kernel) rfl⟩
def M_X6_plot : MI := (cX6_plot, 3, RX6, (some (.int)), { frames := 5, cells := 0, slots := 0, locals := 108 }, yX6_plot)
theorem V_X6_plot : MVV M_X6_plot 0 := ⟨⟨lw_goodIn 1130 (by decide +kernel) rfl, lw_goodIn 76 (by decide +kernel) rfl, rfl, rfl, rfl, by decide +kernel, by decide +kernel, by decide +kernel⟩, lw_goodIn 1128 (by decide +kernel) rfl, lw_goodIn 1129 (by decide +kernel) rfl⟩
def M_X6_breaks : MI := (cX6_breaks, 3, RX6, none, { frames := 1, cells := 0, slots := 0, locals := 21 }, yX6_breaks)
theorem V_X6_breaks : MVV M_X6_breaks 1 := ⟨⟨lw_goodIn 1143 (by decide +kernel) rfl, lw_goodIn 76 (by decide +kernel) rfl, rfl, rfl, rfl, by decide +kernel, by decide +kernel, by decide +kernel⟩, lw_goodIn 1142 (by decide +kernel) rfl, lw_goodIn 38 (by decide +kernel) rfl⟩
def M_X6_falls : MI := (cX6_falls, 3, RX6, none, { frames := 6, cells := 0, slots := 0, locals := 130 }, yX6_falls)
theorem V_X6_falls : MVV M_X6_falls 0 := ⟨⟨lw_goodIn 1139 (by decide +kernel) rfl, lw_goodIn 76 (by decide +kernel) rfl, rfl, rfl, rfl, by decide +kernel, by decide +kernel, by decide +kernel⟩, lw_goodIn 1138 (by decide +kernel) rfl, lw_goodIn 37 (by decide +kernel) rfl⟩
def M_X6_lends : MI := (cX6_lends, 2, RX6, none, { frames := 0, cells := 0, slots := 0, locals := 0 }, yX6_lends)
theorem V_X6_lends : MVV M_X6_lends 0 := ⟨⟨lw_goodIn 1155 (by decide +kernel) rfl, lw_goodIn 76 (by decide +kernel) rfl, rfl, rfl, rfl, by decide +kernel, by decide +kernel, by decide +kernel⟩, lw_goodIn 1154 (by decide +kernel) rfl, lw_goodIn 40 (by decide +kernel) rfl⟩
def M_X6_fall : MI := (cX6_fall, 1, RX6, (some (.int)), { frames := 7, cells := 0, slots := 0, locals := 152 }, yX6_fall)
theorem V_X6_fall : MVV M_X6_fall 0 := ⟨⟨lw_goodIn 1135 (by decide +kernel) rfl, lw_goodIn 76 (by decide +kernel) rfl, rfl, rfl, rfl, by decide +kernel, by decide +kernel, by decide +kernel⟩, lw_goodIn 1133 (by decide +kernel) rfl, lw_goodIn 1134 (by decide +kernel) rfl⟩
def M_X6_wouldFall : MI := (cX6_wouldFall, 4, RX6, (some (.int)), { frames := 7, cells := 0, slots := 0, locals := 152 }, yX6_wouldFall)
theorem V_X6_wouldFall : MVV M_X6_wouldFall 1 := ⟨⟨lw_goodIn 1147 (by decide +kernel) rfl, lw_goodIn 76 (by decide +kernel) rfl, rfl, rfl, rfl, by decide +kernel, by decide +kernel, by decide +kernel⟩, lw_goodIn 1145 (by decide +kernel) rfl, lw_goodIn 1146 (by decide +kernel) rfl⟩
def M_X6_pullsDown : MI := (cX6_pullsDown, 2, RX6, (some (.int)), { frames := 7, cells := 0, slots := 0, locals := 152 }, yX6_pullsDown)
theorem V_X6_pullsDown : MVV M_X6_pullsDown 1 := ⟨⟨lw_goodIn 1163 (by decide +kernel) rfl, lw_goodIn 76 (by decide +kernel) rfl, rfl, rfl, rfl, by decide +kernel, by decide +kernel, by decide +kernel⟩, lw_goodIn 1162 (by decide +kernel) rfl, lw_goodIn 41 (by decide +kernel) rfl⟩
def M_X6_pulls : MI := (cX6_pulls, 2, RX6, (some (.int)), { frames := 8, cells := 0, slots := 0, locals := 173 }, yX6_pulls)
theorem V_X6_pulls : MVV M_X6_pulls 1 := ⟨⟨lw_goodIn 1159 (by decide +kernel) rfl, lw_goodIn 76 (by decide +kernel) rfl, rfl, rfl, rfl, by decide +kernel, by decide +kernel, by decide +kernel⟩, lw_goodIn 1157 (by decide +kernel) rfl, lw_goodIn 1158 (by decide +kernel) rfl⟩
def M_X6_keystone : MI := (cX6_keystone, 5, RX6, (some (.int)), { frames := 8, cells := 0, slots := 0, locals := 173 }, yX6_keystone)
theorem V_X6_keystone : MVV M_X6_keystone 0 := ⟨⟨lw_goodIn 1167 (by decide +kernel) rfl, lw_goodIn 76 (by decide +kernel) rfl, rfl, rfl, rfl, by decide +kernel, by decide +kernel, by decide +kernel⟩, lw_goodIn 1165 (by decide +kernel) rfl, lw_goodIn 1166 (by decide +kernel) rfl⟩
def M_X6_brokenMany : MI := (cX6_brokenMany, 3, RX6, (some (.int)), { frames := 0, cells := 0, slots := 0, locals := 0 }, yX6_brokenMany)
theorem V_X6_brokenMany : MVV M_X6_brokenMany 0 := ⟨⟨lw_goodIn 1179 (by decide +kernel) rfl, lw_goodIn 76 (by decide +kernel) rfl, rfl, rfl, rfl, by decide +kernel, by decide +kernel, by decide +kernel⟩, lw_goodIn 1178 (by decide +kernel) rfl, lw_goodIn 43 (by decide +kernel) rfl⟩
def M_X6_go : MI := (cX6_go, 3, RX6, none, { frames := 7, cells := 0, slots := 0, locals := 152 }, yX6_go)
theorem V_X6_go : MVV M_X6_go 1 := ⟨⟨lw_goodIn 1183 (by decide +kernel) rfl, lw_goodIn 76 (by decide +kernel) rfl, rfl, rfl, rfl, by decide +kernel, by decide +kernel, by decide +kernel⟩, lw_goodIn 1182 (by decide +kernel) rfl, lw_goodIn 44 (by decide +kernel) rfl⟩
def M_X6_isLate : MI := (cX6_isLate, 2, RX6, (some (.boolean)), { frames := 0, cells := 0, slots := 0, locals := 0 }, yX6_isLate)
theorem V_X6_isLate : MVV M_X6_isLate 1 := ⟨⟨lw_goodIn 1175 (by decide +kernel) rfl, lw_goodIn 76 (by decide +kernel) rfl, rfl, rfl, rfl, by decide +kernel, by decide +kernel, by decide +kernel⟩, lw_goodIn 1174 (by decide +kernel) rfl, lw_goodIn 42 (by decide +kernel) rfl⟩
def M_X6_months : MI := (cX6_months, 3, RX6, (some (.int)), { frames := 8, cells := 0, slots := 0, locals := 174 }, yX6_months)
theorem V_X6_months : MVV M_X6_months 1 := ⟨⟨lw_goodIn 1171 (by decide +kernel) rfl, lw_goodIn 76 (by decide +kernel) rfl, rfl, rfl, rfl, by decide +kernel, by decide +kernel, by decide +kernel⟩, lw_goodIn 1169 (by decide +kernel) rfl, lw_goodIn 1170 (by decide +kernel) rfl⟩
def M_X6_now : MI := (cX6_now, 4, RX6, (some (.int)), { frames := 2, cells := 0, slots := 0, locals := 43 }, yX6_now)
theorem V_X6_now : MVV M_X6_now 1 := ⟨⟨lw_goodIn 1187 (by decide +kernel) rfl, lw_goodIn 76 (by decide +kernel) rfl, rfl, rfl, rfl, by decide +kernel, by decide +kernel, by decide +kernel⟩, lw_goodIn 1185 (by decide +kernel) rfl, lw_goodIn 1186 (by decide +kernel) rfl⟩
def M_X6_on : MI := (cX6_on, 3, RX6, (some (.int)), { frames := 8, cells := 0, slots := 0, locals := 174 }, yX6_on)
theorem V_X6_on : MVV M_X6_on 1 := ⟨⟨lw_goodIn 1195 (by decide +kernel) rfl, lw_goodIn 76 (by decide +kernel) rfl, rfl, rfl, rfl, by decide +kernel, by decide +kernel, by decide +kernel⟩, lw_goodIn 1193 (by decide +kernel) rfl, lw_goodIn 1194 (by decide +kernel) rfl⟩
def M_X6_findsOne : MI := (cX6_findsOne, 5, RX6, (some (.boolean)), { frames := 6, cells := 0, slots := 0, locals := 130 }, yX6_findsOne)
theorem V_X6_findsOne : MVV M_X6_findsOne 0 := ⟨⟨lw_goodIn 1203 (by decide +kernel) rfl, lw_goodIn 76 (by decide +kernel) rfl, rfl, rfl, rfl, by decide +kernel, by decide +kernel, by decide +kernel⟩, lw_goodIn 1202 (by decide +kernel) rfl, lw_goodIn 46 (by decide +kernel) rfl⟩
def M_X6_findsBehind : MI := (cX6_findsBehind, 6, RX6, (some (.boolean)), { frames := 6, cells := 0, slots := 0, locals := 130 }, yX6_findsBehind)
theorem V_X6_findsBehind : MVV M_X6_findsBehind 1 := ⟨⟨lw_goodIn 1211 (by decide +kernel) rfl, lw_goodIn 76 (by decide +kernel) rfl, rfl, rfl, rfl, by decide +kernel, by decide +kernel, by decide +kernel⟩, lw_goodIn 1210 (by decide +kernel) rfl, lw_goodIn 48 (by decide +kernel) rfl⟩
def M_X6_findsTwo : MI := (cX6_findsTwo, 5, RX6, (some (.boolean)), { frames := 7, cells := 0, slots := 0, locals := 155 }, yX6_findsTwo)
theorem V_X6_findsTwo : MVV M_X6_findsTwo 0 := ⟨⟨lw_goodIn 1207 (by decide +kernel) rfl, lw_goodIn 76 (by decide +kernel) rfl, rfl, rfl, rfl, by decide +kernel, by decide +kernel, by decide +kernel⟩, lw_goodIn 1206 (by decide +kernel) rfl, lw_goodIn 47 (by decide +kernel) rfl⟩
def M_X6_moves : MI := (cX6_moves, 2, RX6, (some (.int)), { frames := 8, cells := 0, slots := 0, locals := 179 }, yX6_moves)
theorem V_X6_moves : MVV M_X6_moves 1 := ⟨⟨lw_goodIn 1199 (by decide +kernel) rfl, lw_goodIn 76 (by decide +kernel) rfl, rfl, rfl, rfl, by decide +kernel, by decide +kernel, by decide +kernel⟩, lw_goodIn 1197 (by decide +kernel) rfl, lw_goodIn 1198 (by decide +kernel) rfl⟩
def M_X6_looseWith : MI := (cX6_looseWith, 4, RX6, (some (.int)), { frames := 6, cells := 0, slots := 0, locals := 130 }, yX6_looseWith)
theorem V_X6_looseWith : MVV M_X6_looseWith 2 := ⟨⟨lw_goodIn 1219 (by decide +kernel) rfl, lw_goodIn 76 (by decide +kernel) rfl, rfl, rfl, rfl, by decide +kernel, by decide +kernel, by decide +kernel⟩, lw_goodIn 1218 (by decide +kernel) rfl, lw_goodIn 49 (by decide +kernel) rfl⟩
def M_X6_best : MI := (cX6_best, 6, RX6, (some (.int)), { frames := 7, cells := 0, slots := 0, locals := 153 }, yX6_best)
theorem V_X6_best : MVV M_X6_best 1 := ⟨⟨lw_goodIn 1215 (by decide +kernel) rfl, lw_goodIn 76 (by decide +kernel) rfl, rfl, rfl, rfl, by decide +kernel, by decide +kernel, by decide +kernel⟩, lw_goodIn 1213 (by decide +kernel) rfl, lw_goodIn 1214 (by decide +kernel) rfl⟩
def M_X6_key : MI := (cX6_key, 7, RX6, (some (.int)), { frames := 7, cells := 0, slots := 0, locals := 153 }, yX6_key)
theorem V_X6_key : MVV M_X6_key 1 := ⟨⟨lw_goodIn 1223 (by decide +kernel) rfl, lw_goodIn 76 (by decide +kernel) rfl, rfl, rfl, rfl, by decide +kernel, by decide +kernel, by decide +kernel⟩, lw_goodIn 1221 (by decide +kernel) rfl, lw_goodIn 1222 (by decide +kernel) rfl⟩
def M_X6_toFree : MI := (cX6_toFree, 5, RX6, (some (.int)), { frames := 3, cells := 0, slots := 0, locals := 63 }, yX6_toFree)
theorem V_X6_toFree : MVV M_X6_toFree 2 := ⟨⟨lw_goodIn 1227 (by decide +kernel) rfl, lw_goodIn 76 (by decide +kernel) rfl, rfl, rfl, rfl, by decide +kernel, by decide +kernel, by decide +kernel⟩, lw_goodIn 1225 (by decide +kernel) rfl, lw_goodIn 1226 (by decide +kernel) rfl⟩
def M_X6_holdsWith : MI := (cX6_holdsWith, 3, RX6, (some (.boolean)), { frames := 6, cells := 0, slots := 0, locals := 130 }, yX6_holdsWith)
theorem V_X6_holdsWith : MVV M_X6_holdsWith 1 := ⟨⟨lw_goodIn 1249 (by decide +kernel) rfl, lw_goodIn 76 (by decide +kernel) rfl, rfl, rfl, rfl, by decide +kernel, by decide +kernel, by decide +kernel⟩, lw_goodIn 1248 (by decide +kernel) rfl, lw_goodIn 52 (by decide +kernel) rfl⟩
def M_X6_findWay : MI := (cX6_findWay, 5, RX6, none, { frames := 7, cells := 0, slots := 0, locals := 152 }, yX6_findWay)
theorem V_X6_findWay : MVV M_X6_findWay 0 := ⟨⟨lw_goodIn 1245 (by decide +kernel) rfl, lw_goodIn 76 (by decide +kernel) rfl, rfl, rfl, rfl, by decide +kernel, by decide +kernel, by decide +kernel⟩, lw_goodIn 1244 (by decide +kernel) rfl, lw_goodIn 51 (by decide +kernel) rfl⟩
def M_X6_movedAs : MI := (cX6_movedAs, 6, RX6, (some (.int)), { frames := 1, cells := 0, slots := 0, locals := 21 }, yX6_movedAs)
theorem V_X6_movedAs : MVV M_X6_movedAs 1 := ⟨⟨lw_goodIn 1253 (by decide +kernel) rfl, lw_goodIn 76 (by decide +kernel) rfl, rfl, rfl, rfl, by decide +kernel, by decide +kernel, by decide +kernel⟩, lw_goodIn 1252 (by decide +kernel) rfl, lw_goodIn 53 (by decide +kernel) rfl⟩
def M_X6_way : MI := (cX6_way, 8, RX6, (some (.int)), { frames := 8, cells := 0, slots := 0, locals := 176 }, yX6_way)
theorem V_X6_way : MVV M_X6_way 2 := ⟨⟨lw_goodIn 1235 (by decide +kernel) rfl, lw_goodIn 76 (by decide +kernel) rfl, rfl, rfl, rfl, by decide +kernel, by decide +kernel, by decide +kernel⟩, lw_goodIn 1233 (by decide +kernel) rfl, lw_goodIn 1234 (by decide +kernel) rfl⟩
def M_X6_feed : MI := (cX6_feed, 4, RX6, (some (.int)), { frames := 1, cells := 0, slots := 0, locals := 22 }, yX6_feed)
theorem V_X6_feed : MVV M_X6_feed 2 := ⟨⟨lw_goodIn 1257 (by decide +kernel) rfl, lw_goodIn 76 (by decide +kernel) rfl, rfl, rfl, rfl, by decide +kernel, by decide +kernel, by decide +kernel⟩, lw_goodIn 1255 (by decide +kernel) rfl, lw_goodIn 1256 (by decide +kernel) rfl⟩
def M_X6_wipe : MI := (cX6_wipe, 2, RX6, (some (.int)), { frames := 0, cells := 0, slots := 0, locals := 0 }, yX6_wipe)
theorem V_X6_wipe : MVV M_X6_wipe 0 := ⟨⟨lw_goodIn 1261 (by decide +kernel) rfl, lw_goodIn 76 (by decide +kernel) rfl, rfl, rfl, rfl, by decide +kernel, by decide +kernel, by decide +kernel⟩, lw_goodIn 1259 (by decide +kernel) rfl, lw_goodIn 1260 (by decide +kernel) rfl⟩
def M_X6_byteAt : MI := (cX6_byteAt, 2, RX6, (some (.int)), { frames := 0, cells := 0, slots := 0, locals := 0 }, yX6_byteAt)
theorem V_X6_byteAt : MVV M_X6_byteAt 1 := ⟨⟨lw_goodIn 1281 (by decide +kernel) rfl, lw_goodIn 76 (by decide +kernel) rfl, rfl, rfl, rfl, by decide +kernel, by decide +kernel, by decide +kernel⟩, lw_goodIn 1280 (by decide +kernel) rfl, lw_goodIn 57 (by decide +kernel) rfl⟩
def M_X6_isLetter : MI := (cX6_isLetter, 1, RX6, (some (.boolean)), { frames := 1, cells := 0, slots := 0, locals := 22 }, yX6_isLetter)
theorem V_X6_isLetter : MVS M_X6_isLetter 1 := ⟨⟨lw_goodIn 1284 (by decide +kernel) rfl, lw_goodIn 76 (by decide +kernel) rfl, rfl, rfl, rfl, by decide +kernel, by decide +kernel, by decide +kernel⟩, lw_goodIn 1283 (by decide +kernel) rfl⟩
def M_X6_isDigit : MI := (cX6_isDigit, 1, RX6, (some (.boolean)), { frames := 1, cells := 0, slots := 0, locals := 22 }, yX6_isDigit)
theorem V_X6_isDigit : MVS M_X6_isDigit 1 := ⟨⟨lw_goodIn 1287 (by decide +kernel) rfl, lw_goodIn 76 (by decide +kernel) rfl, rfl, rfl, rfl, by decide +kernel, by decide +kernel, by decide +kernel⟩, lw_goodIn 1286 (by decide +kernel) rfl⟩
def M_X6_advance : MI := (cX6_advance, 2, RX6, none, { frames := 2, cells := 0, slots := 0, locals := 42 }, yX6_advance)
theorem V_X6_advance : MVV M_X6_advance 0 := ⟨⟨lw_goodIn 1277 (by decide +kernel) rfl, lw_goodIn 76 (by decide +kernel) rfl, rfl, rfl, rfl, by decide +kernel, by decide +kernel, by decide +kernel⟩, lw_goodIn 1276 (by decide +kernel) rfl, lw_goodIn 56 (by decide +kernel) rfl⟩
def M_X6_isWord : MI := (cX6_isWord, 3, RX6, (some (.boolean)), { frames := 0, cells := 0, slots := 0, locals := 0 }, yX6_isWord)
theorem V_X6_isWord : MVV M_X6_isWord 1 := ⟨⟨lw_goodIn 1299 (by decide +kernel) rfl, lw_goodIn 76 (by decide +kernel) rfl, rfl, rfl, rfl, by decide +kernel, by decide +kernel, by decide +kernel⟩, lw_goodIn 1298 (by decide +kernel) rfl, lw_goodIn 59 (by decide +kernel) rfl⟩
def M_X6_kindHere : MI := (cX6_kindHere, 1, RX6, (some (.int)), { frames := 1, cells := 0, slots := 0, locals := 22 }, yX6_kindHere)
theorem V_X6_kindHere : MVV M_X6_kindHere 0 := ⟨⟨lw_goodIn 1328 (by decide +kernel) rfl, lw_goodIn 76 (by decide +kernel) rfl, rfl, rfl, rfl, by decide +kernel, by decide +kernel, by decide +kernel⟩, lw_goodIn 1327 (by decide +kernel) rfl, lw_goodIn 65 (by decide +kernel) rfl⟩
def M_X6_wantNumber : MI := (cX6_wantNumber, 4, RX6, (some (.int)), { frames := 3, cells := 0, slots := 0, locals := 63 }, yX6_wantNumber)
theorem V_X6_wantNumber : MVV M_X6_wantNumber 2 := ⟨⟨lw_goodIn 1307 (by decide +kernel) rfl, lw_goodIn 76 (by decide +kernel) rfl, rfl, rfl, rfl, by decide +kernel, by decide +kernel, by decide +kernel⟩, lw_goodIn 1306 (by decide +kernel) rfl, lw_goodIn 61 (by decide +kernel) rfl⟩
def M_X6_mayWant : MI := (cX6_mayWant, 6, RX6, (some (.int)), { frames := 4, cells := 0, slots := 0, locals := 86 }, yX6_mayWant)
theorem V_X6_mayWant : MVV M_X6_mayWant 4 := ⟨⟨lw_goodIn 1324 (by decide +kernel) rfl, lw_goodIn 76 (by decide +kernel) rfl, rfl, rfl, rfl, by decide +kernel, by decide +kernel, by decide +kernel⟩, lw_goodIn 1323 (by decide +kernel) rfl, lw_goodIn 64 (by decide +kernel) rfl⟩
def M_X6_wantWord : MI := (cX6_wantWord, 3, RX6, none, { frames := 3, cells := 0, slots := 0, locals := 63 }, yX6_wantWord)
theorem V_X6_wantWord : MVV M_X6_wantWord 1 := ⟨⟨lw_goodIn 1312 (by decide +kernel) rfl, lw_goodIn 76 (by decide +kernel) rfl, rfl, rfl, rfl, by decide +kernel, by decide +kernel, by decide +kernel⟩, lw_goodIn 1311 (by decide +kernel) rfl, lw_goodIn 62 (by decide +kernel) rfl⟩
def M_X6_wantKing : MI := (cX6_wantKing, 3, RX6, none, { frames := 4, cells := 0, slots := 0, locals := 86 }, yX6_wantKing)
theorem V_X6_wantKing : MVV M_X6_wantKing 0 := ⟨⟨lw_goodIn 1303 (by decide +kernel) rfl, lw_goodIn 76 (by decide +kernel) rfl, rfl, rfl, rfl, by decide +kernel, by decide +kernel, by decide +kernel⟩, lw_goodIn 1302 (by decide +kernel) rfl, lw_goodIn 60 (by decide +kernel) rfl⟩
def M_X6_wantChild : MI := (cX6_wantChild, 5, RX6, none, { frames := 5, cells := 0, slots := 0, locals := 111 }, yX6_wantChild)
theorem V_X6_wantChild : MVV M_X6_wantChild 1 := ⟨⟨lw_goodIn 1338 (by decide +kernel) rfl, lw_goodIn 76 (by decide +kernel) rfl, rfl, rfl, rfl, by decide +kernel, by decide +kernel, by decide +kernel⟩, lw_goodIn 1337 (by decide +kernel) rfl, lw_goodIn 66 (by decide +kernel) rfl⟩
def M_X6_wantTreaty : MI := (cX6_wantTreaty, 5, RX6, none, { frames := 5, cells := 0, slots := 0, locals := 111 }, yX6_wantTreaty)
theorem V_X6_wantTreaty : MVV M_X6_wantTreaty 0 := ⟨⟨lw_goodIn 1317 (by decide +kernel) rfl, lw_goodIn 76 (by decide +kernel) rfl, rfl, rfl, rfl, by decide +kernel, by decide +kernel, by decide +kernel⟩, lw_goodIn 1316 (by decide +kernel) rfl, lw_goodIn 63 (by decide +kernel) rfl⟩
def M_X6_wantItem : MI := (cX6_wantItem, 1, RX6, none, { frames := 6, cells := 0, slots := 0, locals := 135 }, yX6_wantItem)
theorem V_X6_wantItem : MVV M_X6_wantItem 0 := ⟨⟨lw_goodIn 1294 (by decide +kernel) rfl, lw_goodIn 76 (by decide +kernel) rfl, rfl, rfl, rfl, by decide +kernel, by decide +kernel, by decide +kernel⟩, lw_goodIn 1293 (by decide +kernel) rfl, lw_goodIn 58 (by decide +kernel) rfl⟩
def M_X6_court : MI := (cX6_court, 3, RX6, (some (.int)), { frames := 7, cells := 0, slots := 0, locals := 155 }, yX6_court)
theorem V_X6_court : MVV M_X6_court 0 := ⟨⟨lw_goodIn 1265 (by decide +kernel) rfl, lw_goodIn 76 (by decide +kernel) rfl, rfl, rfl, rfl, by decide +kernel, by decide +kernel, by decide +kernel⟩, lw_goodIn 1263 (by decide +kernel) rfl, lw_goodIn 1264 (by decide +kernel) rfl⟩
def M_X6_isSheet : MI := (cX6_isSheet, 1, RX6, (some (.boolean)), { frames := 1, cells := 0, slots := 0, locals := 22 }, yX6_isSheet)
theorem V_X6_isSheet : MVS M_X6_isSheet 1 := ⟨⟨lw_goodIn 1238 (by decide +kernel) rfl, lw_goodIn 76 (by decide +kernel) rfl, rfl, rfl, rfl, by decide +kernel, by decide +kernel, by decide +kernel⟩, lw_goodIn 1237 (by decide +kernel) rfl⟩
def M_X6_narrow : MI := (cX6_narrow, 3, RX6, (some (.long)), { frames := 0, cells := 0, slots := 0, locals := 0 }, yX6_narrow)
theorem V_X6_narrow : MVS M_X6_narrow 2 := ⟨⟨lw_goodIn 1352 (by decide +kernel) rfl, lw_goodIn 76 (by decide +kernel) rfl, rfl, rfl, rfl, by decide +kernel, by decide +kernel, by decide +kernel⟩, lw_goodIn 1351 (by decide +kernel) rfl⟩
def M_X6_sheet : MI := (cX6_sheet, 5, RX6, (some (.int)), { frames := 2, cells := 0, slots := 0, locals := 42 }, yX6_sheet)
theorem V_X6_sheet : MVV M_X6_sheet 3 := ⟨⟨lw_goodIn 1345 (by decide +kernel) rfl, lw_goodIn 76 (by decide +kernel) rfl, rfl, rfl, rfl, by decide +kernel, by decide +kernel, by decide +kernel⟩, lw_goodIn 1343 (by decide +kernel) rfl, lw_goodIn 1344 (by decide +kernel) rfl⟩
def M_X6_write : MI := (cX6_write, 7, RX6, (some (.long)), { frames := 2, cells := 0, slots := 0, locals := 42 }, yX6_write)
theorem V_X6_write : MVV M_X6_write 3 := ⟨⟨lw_goodIn 1349 (by decide +kernel) rfl, lw_goodIn 76 (by decide +kernel) rfl, rfl, rfl, rfl, by decide +kernel, by decide +kernel, by decide +kernel⟩, lw_goodIn 1347 (by decide +kernel) rfl, lw_goodIn 1348 (by decide +kernel) rfl⟩
def M_X6_isPart : MI := (cX6_isPart, 4, RX6, (some (.boolean)), { frames := 0, cells := 0, slots := 0, locals := 0 }, yX6_isPart)
theorem V_X6_isPart : MVV M_X6_isPart 3 := ⟨⟨lw_goodIn 1360 (by decide +kernel) rfl, lw_goodIn 76 (by decide +kernel) rfl, rfl, rfl, rfl, by decide +kernel, by decide +kernel, by decide +kernel⟩, lw_goodIn 1359 (by decide +kernel) rfl, lw_goodIn 67 (by decide +kernel) rfl⟩
def M_X6_copy : MI := (cX6_copy, 7, RX6, (some (.int)), { frames := 2, cells := 0, slots := 0, locals := 42 }, yX6_copy)
theorem V_X6_copy : MVV M_X6_copy 5 := ⟨⟨lw_goodIn 1356 (by decide +kernel) rfl, lw_goodIn 76 (by decide +kernel) rfl, rfl, rfl, rfl, by decide +kernel, by decide +kernel, by decide +kernel⟩, lw_goodIn 1354 (by decide +kernel) rfl, lw_goodIn 1355 (by decide +kernel) rfl⟩
def M_X6_lays : MI := (cX6_lays, 6, RX6, (some (.int)), { frames := 2, cells := 0, slots := 0, locals := 42 }, yX6_lays)
theorem V_X6_lays : MVV M_X6_lays 1 := ⟨⟨lw_goodIn 1364 (by decide +kernel) rfl, lw_goodIn 76 (by decide +kernel) rfl, rfl, rfl, rfl, by decide +kernel, by decide +kernel, by decide +kernel⟩, lw_goodIn 1362 (by decide +kernel) rfl, lw_goodIn 1363 (by decide +kernel) rfl⟩
def M_X6_rolled : MI := (cX6_rolled, 2, RX6, (some (.int)), { frames := 1, cells := 0, slots := 0, locals := 21 }, yX6_rolled)
theorem V_X6_rolled : MVV M_X6_rolled 1 := ⟨⟨lw_goodIn 1372 (by decide +kernel) rfl, lw_goodIn 76 (by decide +kernel) rfl, rfl, rfl, rfl, by decide +kernel, by decide +kernel, by decide +kernel⟩, lw_goodIn 1371 (by decide +kernel) rfl, lw_goodIn 68 (by decide +kernel) rfl⟩
def M_X6_roll : MI := (cX6_roll, 3, RX6, (some (.int)), { frames := 2, cells := 0, slots := 0, locals := 42 }, yX6_roll)
theorem V_X6_roll : MVV M_X6_roll 1 := ⟨⟨lw_goodIn 1368 (by decide +kernel) rfl, lw_goodIn 76 (by decide +kernel) rfl, rfl, rfl, rfl, by decide +kernel, by decide +kernel, by decide +kernel⟩, lw_goodIn 1366 (by decide +kernel) rfl, lw_goodIn 1367 (by decide +kernel) rfl⟩
def M_X6_read : MI := (cX6_read, 3, RX6, (some (.int)), { frames := 2, cells := 0, slots := 0, locals := 42 }, yX6_read)
theorem V_X6_read : MVV M_X6_read 1 := ⟨⟨lw_goodIn 1376 (by decide +kernel) rfl, lw_goodIn 76 (by decide +kernel) rfl, rfl, rfl, rfl, by decide +kernel, by decide +kernel, by decide +kernel⟩, lw_goodIn 1374 (by decide +kernel) rfl, lw_goodIn 1375 (by decide +kernel) rfl⟩
def M_X6_moveRow : MI := (cX6_moveRow, 6, RX6, none, { frames := 0, cells := 0, slots := 0, locals := 0 }, yX6_moveRow)
theorem V_X6_moveRow : MVV M_X6_moveRow 4 := ⟨⟨lw_goodIn 1273 (by decide +kernel) rfl, lw_goodIn 76 (by decide +kernel) rfl, rfl, rfl, rfl, by decide +kernel, by decide +kernel, by decide +kernel⟩, lw_goodIn 1272 (by decide +kernel) rfl, lw_goodIn 55 (by decide +kernel) rfl⟩
def M_X6_moveAll : MI := (cX6_moveAll, 3, RX6, none, { frames := 1, cells := 0, slots := 0, locals := 25 }, yX6_moveAll)
theorem V_X6_moveAll : MVV M_X6_moveAll 2 := ⟨⟨lw_goodIn 1269 (by decide +kernel) rfl, lw_goodIn 76 (by decide +kernel) rfl, rfl, rfl, rfl, by decide +kernel, by decide +kernel, by decide +kernel⟩, lw_goodIn 1268 (by decide +kernel) rfl, lw_goodIn 54 (by decide +kernel) rfl⟩
def M_X6_image : MI := (cX6_image, 1, RX6, (some (.int)), { frames := 2, cells := 0, slots := 0, locals := 47 }, yX6_image)
theorem V_X6_image : MVV M_X6_image 0 := ⟨⟨lw_goodIn 1380 (by decide +kernel) rfl, lw_goodIn 76 (by decide +kernel) rfl, rfl, rfl, rfl, by decide +kernel, by decide +kernel, by decide +kernel⟩, lw_goodIn 1378 (by decide +kernel) rfl, lw_goodIn 1379 (by decide +kernel) rfl⟩
def M_X6_undo : MI := (cX6_undo, 1, RX6, (some (.int)), { frames := 2, cells := 0, slots := 0, locals := 47 }, yX6_undo)
theorem V_X6_undo : MVV M_X6_undo 0 := ⟨⟨lw_goodIn 1384 (by decide +kernel) rfl, lw_goodIn 76 (by decide +kernel) rfl, rfl, rfl, rfl, by decide +kernel, by decide +kernel, by decide +kernel⟩, lw_goodIn 1382 (by decide +kernel) rfl, lw_goodIn 1383 (by decide +kernel) rfl⟩
def M_X6_tear : MI := (cX6_tear, 2, RX6, (some (.int)), { frames := 0, cells := 0, slots := 0, locals := 0 }, yX6_tear)
theorem V_X6_tear : MVV M_X6_tear 0 := ⟨⟨lw_goodIn 1388 (by decide +kernel) rfl, lw_goodIn 76 (by decide +kernel) rfl, rfl, rfl, rfl, by decide +kernel, by decide +kernel, by decide +kernel⟩, lw_goodIn 1386 (by decide +kernel) rfl, lw_goodIn 1387 (by decide +kernel) rfl⟩
def M_X6_count : MI := (cX6_count, 4, RX6, (some (.int)), { frames := 4, cells := 0, slots := 0, locals := 87 }, yX6_count)
theorem V_X6_count : MVV M_X6_count 1 := ⟨⟨lw_goodIn 1392 (by decide +kernel) rfl, lw_goodIn 76 (by decide +kernel) rfl, rfl, rfl, rfl, by decide +kernel, by decide +kernel, by decide +kernel⟩, lw_goodIn 1390 (by decide +kernel) rfl, lw_goodIn 1391 (by decide +kernel) rfl⟩
def M_X6_status : MI := (cX6_status, 4, RX6, (some (.int)), { frames := 1, cells := 0, slots := 0, locals := 22 }, yX6_status)
theorem V_X6_status : MVV M_X6_status 1 := ⟨⟨lw_goodIn 1396 (by decide +kernel) rfl, lw_goodIn 76 (by decide +kernel) rfl, rfl, rfl, rfl, by decide +kernel, by decide +kernel, by decide +kernel⟩, lw_goodIn 1394 (by decide +kernel) rfl, lw_goodIn 1395 (by decide +kernel) rfl⟩
def M_J6_bitCount_0f7a4 : MI := (cJ6_bitCount_0f7a4, 1, RJ6, (some (.int)), { frames := 0, cells := 0, slots := 0, locals := 0 }, yJ6_bitCount_0f7a4)
theorem V_J6_bitCount_0f7a4 : MVS M_J6_bitCount_0f7a4 1 := ⟨⟨lw_goodIn 410 (by decide +kernel) rfl, lw_goodIn 78 (by decide +kernel) rfl, rfl, rfl, rfl, by decide +kernel, by decide +kernel, by decide +kernel⟩, lw_goodIn 409 (by decide +kernel) rfl⟩
def M_J0_length_8abf5 : MI := (cJ0_length_8abf5, 1, RJ0, (some (.int)), { frames := 1, cells := 0, slots := 0, locals := 20 }, yJ0_length_8abf5)
theorem V_J0_length_8abf5 : MVV M_J0_length_8abf5 0 := ⟨⟨lw_goodIn 686 (by decide +kernel) rfl, lw_goodIn 80 (by decide +kernel) rfl, rfl, rfl, rfl, by decide +kernel, by decide +kernel, by decide +kernel⟩, lw_goodIn 684 (by decide +kernel) rfl, lw_goodIn 685 (by decide +kernel) rfl⟩
def M_J0_charAt_5068e : MI := (cJ0_charAt_5068e, 2, RJ0, (some (.char)), { frames := 4, cells := 0, slots := 0, locals := 85 }, yJ0_charAt_5068e)
theorem V_J0_charAt_5068e : MVV M_J0_charAt_5068e 1 := ⟨⟨lw_goodIn 696 (by decide +kernel) rfl, lw_goodIn 80 (by decide +kernel) rfl, rfl, rfl, rfl, by decide +kernel, by decide +kernel, by decide +kernel⟩, lw_goodIn 694 (by decide +kernel) rfl, lw_goodIn 695 (by decide +kernel) rfl⟩
def M_J0_coder_7d493 : MI := (cJ0_coder_7d493, 1, RJ0, (some (.byte)), { frames := 0, cells := 0, slots := 0, locals := 0 }, yJ0_coder_7d493)
theorem V_J0_coder_7d493 : MVV M_J0_coder_7d493 0 := ⟨⟨lw_goodIn 690 (by decide +kernel) rfl, lw_goodIn 80 (by decide +kernel) rfl, rfl, rfl, rfl, by decide +kernel, by decide +kernel, by decide +kernel⟩, lw_goodIn 688 (by decide +kernel) rfl, lw_goodIn 689 (by decide +kernel) rfl⟩
def M_J0_isLatin1_aae02 : MI := (cJ0_isLatin1_aae02, 1, RJ0, (some (.boolean)), { frames := 0, cells := 0, slots := 0, locals := 0 }, yJ0_isLatin1_aae02)
theorem V_J0_isLatin1_aae02 : MVV M_J0_isLatin1_aae02 0 := ⟨⟨lw_goodIn 700 (by decide +kernel) rfl, lw_goodIn 80 (by decide +kernel) rfl, rfl, rfl, rfl, by decide +kernel, by decide +kernel, by decide +kernel⟩, lw_goodIn 698 (by decide +kernel) rfl, lw_goodIn 699 (by decide +kernel) rfl⟩
def M_J0_checkIndex_df160 : MI := (cJ0_checkIndex_df160, 2, RJ0, none, { frames := 1, cells := 0, slots := 0, locals := 22 }, yJ0_checkIndex_df160)
theorem V_J0_checkIndex_df160 : MVS M_J0_checkIndex_df160 2 := ⟨⟨lw_goodIn 706 (by decide +kernel) rfl, lw_goodIn 80 (by decide +kernel) rfl, rfl, rfl, rfl, by decide +kernel, by decide +kernel, by decide +kernel⟩, lw_goodIn 705 (by decide +kernel) rfl⟩
def M_J1_charAt_3b067 : MI := (cJ1_charAt_3b067, 2, RJ1, (some (.char)), { frames := 2, cells := 0, slots := 0, locals := 43 }, yJ1_charAt_3b067)
theorem V_J1_charAt_3b067 : MVS M_J1_charAt_3b067 2 := ⟨⟨lw_goodIn 703 (by decide +kernel) rfl, lw_goodIn 81 (by decide +kernel) rfl, rfl, rfl, rfl, by decide +kernel, by decide +kernel, by decide +kernel⟩, lw_goodIn 702 (by decide +kernel) rfl⟩
def M_J3_checkIndex_8e157 : MI := (cJ3_checkIndex_8e157, 3, RJ3, (some (.int)), { frames := 0, cells := 0, slots := 0, locals := 0 }, yJ3_checkIndex_8e157)
theorem V_J3_checkIndex_8e157 : MVS M_J3_checkIndex_8e157 3 := ⟨⟨lw_goodIn 711 (by decide +kernel) rfl, lw_goodIn 82 (by decide +kernel) rfl, rfl, rfl, rfl, by decide +kernel, by decide +kernel, by decide +kernel⟩, lw_goodIn 710 (by decide +kernel) rfl⟩
theorem ml_X0_18 : Cond.methodLink RX0 18 yX1_become ∈ lw_good := lw_goodIn 558 (by decide +kernel) rfl
theorem ml_X0_26 : Cond.methodLink RX0 26 yX1_looseWordsOf ∈ lw_good := lw_goodIn 559 (by decide +kernel) rfl
theorem ml_X0_30 : Cond.methodLink RX0 30 yX0_findOne ∈ lw_good := lw_goodIn 560 (by decide +kernel) rfl
theorem ml_X0_34 : Cond.methodLink RX0 34 yX0_findTwo ∈ lw_good := lw_goodIn 576 (by decide +kernel) rfl
theorem ml_X0_40 : Cond.methodLink RX0 40 yX0_isMove ∈ lw_good := lw_goodIn 564 (by decide +kernel) rfl
theorem ml_X0_44 : Cond.methodLink RX0 44 yX0_mayMend ∈ lw_good := lw_goodIn 568 (by decide +kernel) rfl
theorem ml_X0_52 : Cond.methodLink RX0 52 yX0_allHold ∈ lw_good := lw_goodIn 572 (by decide +kernel) rfl
theorem ml_X0_58 : Cond.methodLink RX0 58 yX0_findGreater ∈ lw_good := lw_goodIn 580 (by decide +kernel) rfl
theorem ml_X0_64 : Cond.methodLink RX0 64 yX1_isDead ∈ lw_good := lw_goodIn 567 (by decide +kernel) rfl
theorem ml_X1_42 : Cond.methodLink RX1 42 arraycopyName ∈ lw_good := lw_goodIn 505 (by decide +kernel) rfl
theorem ml_X1_64 : Cond.methodLink RX1 64 yX1_isBroken ∈ lw_good := lw_goodIn 336 (by decide +kernel) rfl
theorem ml_X1_68 : Cond.methodLink RX1 68 yX1_twinsAtHome ∈ lw_good := lw_goodIn 364 (by decide +kernel) rfl
theorem ml_X1_72 : Cond.methodLink RX1 72 yX1_lossBeside ∈ lw_good := lw_goodIn 368 (by decide +kernel) rfl
theorem ml_X1_76 : Cond.methodLink RX1 76 yX1_isDead ∈ lw_good := lw_goodIn 320 (by decide +kernel) rfl
theorem ml_X1_79 : Cond.methodLink RX1 79 Lib.Math.max.name ∈ lw_good := lw_goodIn 372 (by decide +kernel) rfl
theorem ml_X1_84 : Cond.methodLink RX1 84 yX1_heldBy ∈ lw_good := lw_goodIn 493 (by decide +kernel) rfl
theorem ml_X1_87 : Cond.methodLink RX1 87 yX1_lossOf ∈ lw_good := lw_goodIn 447 (by decide +kernel) rfl
theorem ml_X1_90 : Cond.methodLink RX1 90 yX1_isInForce ∈ lw_good := lw_goodIn 332 (by decide +kernel) rfl
theorem ml_X1_93 : Cond.methodLink RX1 93 yX1_pledgeHeld ∈ lw_good := lw_goodIn 443 (by decide +kernel) rfl
theorem ml_X1_96 : Cond.methodLink RX1 96 yX1_looseWordsOf ∈ lw_good := lw_goodIn 404 (by decide +kernel) rfl
theorem ml_X1_99 : Cond.methodLink RX1 99 yX1_isOneOf ∈ lw_good := lw_goodIn 473 (by decide +kernel) rfl
theorem ml_X1_103 : Cond.methodLink RX1 103 yX1_looseWords ∈ lw_good := lw_goodIn 488 (by decide +kernel) rfl
theorem ml_X1_107 : Cond.methodLink RX1 107 yX1_breakWords ∈ lw_good := lw_goodIn 489 (by decide +kernel) rfl
theorem ml_X1_111 : Cond.methodLink RX1 111 yX1_bringDown ∈ lw_good := lw_goodIn 529 (by decide +kernel) rfl
theorem ml_X2_44 : Cond.methodLink RX2 44 yX3_holderAt ∈ lw_good := lw_goodIn 617 (by decide +kernel) rfl
theorem ml_X2_51 : Cond.methodLink RX2 51 yX1_isDead ∈ lw_good := lw_goodIn 626 (by decide +kernel) rfl
theorem ml_X2_55 : Cond.methodLink RX2 55 yX1_become ∈ lw_good := lw_goodIn 631 (by decide +kernel) rfl
theorem ml_X2_59 : Cond.methodLink RX2 59 yX2_firstStep ∈ lw_good := lw_goodIn 632 (by decide +kernel) rfl
theorem ml_X2_62 : Cond.methodLink RX2 62 yX2_holdsAt ∈ lw_good := lw_goodIn 636 (by decide +kernel) rfl
theorem ml_X2_66 : Cond.methodLink RX2 66 yX1_looseWords ∈ lw_good := lw_goodIn 640 (by decide +kernel) rfl
theorem ml_X4_22 : Cond.methodLink RX4 22 yX4_advance ∈ lw_good := lw_goodIn 661 (by decide +kernel) rfl
theorem ml_X4_25 : Cond.methodLink RX4 25 yX4_readItem ∈ lw_good := lw_goodIn 674 (by decide +kernel) rfl
theorem ml_X4_34 : Cond.methodLink RX4 34 yX4_isWord ∈ lw_good := lw_goodIn 679 (by decide +kernel) rfl
theorem ml_X4_38 : Cond.methodLink RX4 38 yX4_readFear ∈ lw_good := lw_goodIn 731 (by decide +kernel) rfl
theorem ml_X4_43 : Cond.methodLink RX4 43 yX4_readTreaty ∈ lw_good := lw_goodIn 745 (by decide +kernel) rfl
theorem ml_X4_46 : Cond.methodLink RX4 46 yX4_nameOfKind ∈ lw_good := lw_goodIn 753 (by decide +kernel) rfl
theorem ml_X4_50 : Cond.methodLink RX4 50 yX4_readChild ∈ lw_good := lw_goodIn 762 (by decide +kernel) rfl
theorem ml_X4_54 : Cond.methodLink RX4 54 yX4_takeNumber ∈ lw_good := lw_goodIn 735 (by decide +kernel) rfl
theorem ml_X4_60 : Cond.methodLink RX4 60 yX4_takeWord ∈ lw_good := lw_goodIn 740 (by decide +kernel) rfl
theorem ml_X4_77 : Cond.methodLink RX4 77 yX1_addChild ∈ lw_good := lw_goodIn 769 (by decide +kernel) rfl
theorem ml_X4_93 : Cond.methodLink RX4 93 yX1_addTreaty ∈ lw_good := lw_goodIn 752 (by decide +kernel) rfl
theorem ml_X4_99 : Cond.methodLink RX4 99 yJ0_length_8abf5 ∈ lw_good := lw_goodIn 683 (by decide +kernel) rfl
theorem ml_X4_105 : Cond.methodLink RX4 105 yJ0_charAt_5068e ∈ lw_good := lw_goodIn 693 (by decide +kernel) rfl
theorem ml_X4_109 : Cond.methodLink RX4 109 yX4_isLetter ∈ lw_good := lw_goodIn 665 (by decide +kernel) rfl
theorem ml_X4_113 : Cond.methodLink RX4 113 yX4_isDigit ∈ lw_good := lw_goodIn 668 (by decide +kernel) rfl
theorem ml_X4_116 : Cond.methodLink RX4 116 Lib.Math.min.name ∈ lw_good := lw_goodIn 671 (by decide +kernel) rfl
theorem ml_X5_54 : Cond.methodLink RX5 54 yX5_isKing ∈ lw_good := lw_goodIn 301 (by decide +kernel) rfl
theorem ml_X5_58 : Cond.methodLink RX5 58 yX5_isWithin ∈ lw_good := lw_goodIn 304 (by decide +kernel) rfl
theorem ml_X5_62 : Cond.methodLink RX5 62 yX5_finding ∈ lw_good := lw_goodIn 307 (by decide +kernel) rfl
theorem ml_X5_69 : Cond.methodLink RX5 69 yX1_childrenOf ∈ lw_good := lw_goodIn 316 (by decide +kernel) rfl
theorem ml_X5_72 : Cond.methodLink RX5 72 yX1_heldFromOthers ∈ lw_good := lw_goodIn 324 (by decide +kernel) rfl
theorem ml_X5_75 : Cond.methodLink RX5 75 yX1_wordsOf ∈ lw_good := lw_goodIn 328 (by decide +kernel) rfl
theorem ml_X5_78 : Cond.methodLink RX5 78 yX5_isKind ∈ lw_good := lw_goodIn 344 (by decide +kernel) rfl
theorem ml_X5_85 : Cond.methodLink RX5 85 yX1_addChild ∈ lw_good := lw_goodIn 347 (by decide +kernel) rfl
theorem ml_X5_89 : Cond.methodLink RX5 89 yX5_isChild ∈ lw_good := lw_goodIn 355 (by decide +kernel) rfl
theorem ml_X5_104 : Cond.methodLink RX5 104 yX1_isDead ∈ lw_good := lw_goodIn 359 (by decide +kernel) rfl
theorem ml_X5_107 : Cond.methodLink RX5 107 yX1_lossOf ∈ lw_good := lw_goodIn 360 (by decide +kernel) rfl
theorem ml_X5_110 : Cond.methodLink RX5 110 yX5_isKindUnder ∈ lw_good := lw_goodIn 391 (by decide +kernel) rfl
theorem ml_X5_113 : Cond.methodLink RX5 113 yX1_looseWords ∈ lw_good := lw_goodIn 400 (by decide +kernel) rfl
theorem ml_X5_120 : Cond.methodLink RX5 120 yJ6_bitCount_0f7a4 ∈ lw_good := lw_goodIn 408 (by decide +kernel) rfl
theorem ml_X5_125 : Cond.methodLink RX5 125 yX5_areTwoKings ∈ lw_good := lw_goodIn 422 (by decide +kernel) rfl
theorem ml_X5_131 : Cond.methodLink RX5 131 yX1_addTreaty ∈ lw_good := lw_goodIn 425 (by decide +kernel) rfl
theorem ml_X5_134 : Cond.methodLink RX5 134 yX5_isTreaty ∈ lw_good := lw_goodIn 433 (by decide +kernel) rfl
theorem ml_X5_149 : Cond.methodLink RX5 149 yX1_isBroken ∈ lw_good := lw_goodIn 437 (by decide +kernel) rfl
theorem ml_X5_152 : Cond.methodLink RX5 152 yX1_isInForce ∈ lw_good := lw_goodIn 438 (by decide +kernel) rfl
theorem ml_X5_155 : Cond.methodLink RX5 155 yX1_easeOf ∈ lw_good := lw_goodIn 439 (by decide +kernel) rfl
theorem ml_X5_158 : Cond.methodLink RX5 158 yX1_pledgeHeld ∈ lw_good := lw_goodIn 456 (by decide +kernel) rfl
theorem ml_X5_162 : Cond.methodLink RX5 162 yX1_pactPays ∈ lw_good := lw_goodIn 469 (by decide +kernel) rfl
theorem ml_X5_165 : Cond.methodLink RX5 165 yX1_bringDown ∈ lw_good := lw_goodIn 484 (by decide +kernel) rfl
theorem ml_X5_168 : Cond.methodLink RX5 168 yX1_become ∈ lw_good := lw_goodIn 501 (by decide +kernel) rfl
theorem ml_X5_175 : Cond.methodLink RX5 175 yX5_broughtDownWith ∈ lw_good := lw_goodIn 512 (by decide +kernel) rfl
theorem ml_X5_181 : Cond.methodLink RX5 181 yX1_pass ∈ lw_good := lw_goodIn 525 (by decide +kernel) rfl
theorem ml_X5_185 : Cond.methodLink RX5 185 yX1_wordsInForce ∈ lw_good := lw_goodIn 534 (by decide +kernel) rfl
theorem ml_X5_188 : Cond.methodLink RX5 188 yX1_living ∈ lw_good := lw_goodIn 538 (by decide +kernel) rfl
theorem ml_X5_191 : Cond.methodLink RX5 191 yX1_livingAtHome ∈ lw_good := lw_goodIn 542 (by decide +kernel) rfl
theorem ml_X5_194 : Cond.methodLink RX5 194 yX0_plan ∈ lw_good := lw_goodIn 554 (by decide +kernel) rfl
theorem ml_X5_204 : Cond.methodLink RX5 204 yX1_hasWord ∈ lw_good := lw_goodIn 596 (by decide +kernel) rfl
theorem ml_X5_207 : Cond.methodLink RX5 207 yX1_heldBy ∈ lw_good := lw_goodIn 600 (by decide +kernel) rfl
theorem ml_X5_210 : Cond.methodLink RX5 210 yX5_sheetAt ∈ lw_good := lw_goodIn 605 (by decide +kernel) rfl
theorem ml_X5_214 : Cond.methodLink RX5 214 yX3_isMissing ∈ lw_good := lw_goodIn 609 (by decide +kernel) rfl
theorem ml_X5_218 : Cond.methodLink RX5 218 yX2_aim ∈ lw_good := lw_goodIn 613 (by decide +kernel) rfl
theorem ml_X5_225 : Cond.methodLink RX5 225 yX2_movesDead ∈ lw_good := lw_goodIn 622 (by decide +kernel) rfl
theorem ml_X5_229 : Cond.methodLink RX5 229 yX2_find ∈ lw_good := lw_goodIn 627 (by decide +kernel) rfl
theorem ml_X5_238 : Cond.methodLink RX5 238 yX4_add ∈ lw_good := lw_goodIn 645 (by decide +kernel) rfl
theorem ml_X5_241 : Cond.methodLink RX5 241 yX4_readInto ∈ lw_good := lw_goodIn 657 (by decide +kernel) rfl
theorem ml_X5_247 : Cond.methodLink RX5 247 yX3_lay ∈ lw_good := lw_goodIn 775 (by decide +kernel) rfl
theorem ml_X5_256 : Cond.methodLink RX5 256 yX3_put ∈ lw_good := lw_goodIn 783 (by decide +kernel) rfl
theorem ml_X5_263 : Cond.methodLink RX5 263 yX3_hasRow ∈ lw_good := lw_goodIn 791 (by decide +kernel) rfl
theorem ml_X5_266 : Cond.methodLink RX5 266 arraycopyName ∈ lw_good := lw_goodIn 795 (by decide +kernel) rfl
theorem ml_X5_272 : Cond.methodLink RX5 272 yX3_holderAt ∈ lw_good := lw_goodIn 800 (by decide +kernel) rfl
theorem ml_X5_275 : Cond.methodLink RX5 275 Lib.Math.min.name ∈ lw_good := lw_goodIn 805 (by decide +kernel) rfl
theorem ml_X5_280 : Cond.methodLink RX5 280 yX1_rolledHolder ∈ lw_good := lw_goodIn 806 (by decide +kernel) rfl
theorem ml_X5_287 : Cond.methodLink RX5 287 yX1_lossesAbroad ∈ lw_good := lw_goodIn 830 (by decide +kernel) rfl
theorem ml_X5_294 : Cond.methodLink RX5 294 yX1_breakWords ∈ lw_good := lw_goodIn 516 (by decide +kernel) rfl
theorem ml_X6_79 : Cond.methodLink RX6 79 yX6_in ∈ lw_good := lw_goodIn 975 (by decide +kernel) rfl
theorem ml_X6_93 : Cond.methodLink RX6 93 yX6_holder ∈ lw_good := lw_goodIn 994 (by decide +kernel) rfl
theorem ml_X6_97 : Cond.methodLink RX6 97 yX6_lives ∈ lw_good := lw_goodIn 1002 (by decide +kernel) rfl
theorem ml_X6_101 : Cond.methodLink RX6 101 yX6_isHome ∈ lw_good := lw_goodIn 998 (by decide +kernel) rfl
theorem ml_X6_104 : Cond.methodLink RX6 104 yX6_hasTwinAtHome ∈ lw_good := lw_goodIn 1030 (by decide +kernel) rfl
theorem ml_X6_107 : Cond.methodLink RX6 107 yX6_loss ∈ lw_good := lw_goodIn 1026 (by decide +kernel) rfl
theorem ml_X6_110 : Cond.methodLink RX6 110 yX6_findPledges ∈ lw_good := lw_goodIn 1063 (by decide +kernel) rfl
theorem ml_X6_113 : Cond.methodLink RX6 113 yX6_isInForce ∈ lw_good := lw_goodIn 990 (by decide +kernel) rfl
theorem ml_X6_116 : Cond.methodLink RX6 116 yX6_easeOf ∈ lw_good := lw_goodIn 1067 (by decide +kernel) rfl
theorem ml_X6_119 : Cond.methodLink RX6 119 yX6_isKing ∈ lw_good := lw_goodIn 972 (by decide +kernel) rfl
theorem ml_X6_122 : Cond.methodLink RX6 122 yX6_isTold ∈ lw_good := lw_goodIn 978 (by decide +kernel) rfl
theorem ml_X6_125 : Cond.methodLink RX6 125 yX6_finds ∈ lw_good := lw_goodIn 982 (by decide +kernel) rfl
theorem ml_X6_128 : Cond.methodLink RX6 128 yX6_isKind ∈ lw_good := lw_goodIn 1010 (by decide +kernel) rfl
theorem ml_X6_132 : Cond.methodLink RX6 132 yX6_addChild ∈ lw_good := lw_goodIn 1014 (by decide +kernel) rfl
theorem ml_X6_136 : Cond.methodLink RX6 136 yX6_isChild ∈ lw_good := lw_goodIn 1022 (by decide +kernel) rfl
theorem ml_X6_140 : Cond.methodLink RX6 140 yX6_isUnder ∈ lw_good := lw_goodIn 1051 (by decide +kernel) rfl
theorem ml_X6_145 : Cond.methodLink RX6 145 yX6_looseSet ∈ lw_good := lw_goodIn 1059 (by decide +kernel) rfl
theorem ml_X6_149 : Cond.methodLink RX6 149 yX6_ones ∈ lw_good := lw_goodIn 1071 (by decide +kernel) rfl
theorem ml_X6_152 : Cond.methodLink RX6 152 yX6_isLong ∈ lw_good := lw_goodIn 1082 (by decide +kernel) rfl
theorem ml_X6_155 : Cond.methodLink RX6 155 yX6_addTreaty ∈ lw_good := lw_goodIn 1085 (by decide +kernel) rfl
theorem ml_X6_158 : Cond.methodLink RX6 158 yX6_isTreaty ∈ lw_good := lw_goodIn 1093 (by decide +kernel) rfl
theorem ml_X6_161 : Cond.methodLink RX6 161 yX6_has ∈ lw_good := lw_goodIn 1097 (by decide +kernel) rfl
theorem ml_X6_164 : Cond.methodLink RX6 164 yX6_areTwo ∈ lw_good := lw_goodIn 1108 (by decide +kernel) rfl
theorem ml_X6_167 : Cond.methodLink RX6 167 yX6_pays ∈ lw_good := lw_goodIn 1123 (by decide +kernel) rfl
theorem ml_X6_180 : Cond.methodLink RX6 180 yX6_breaks ∈ lw_good := lw_goodIn 1140 (by decide +kernel) rfl
theorem ml_X6_184 : Cond.methodLink RX6 184 yX6_falls ∈ lw_good := lw_goodIn 1136 (by decide +kernel) rfl
theorem ml_X6_187 : Cond.methodLink RX6 187 yX6_deadSet ∈ lw_good := lw_goodIn 1148 (by decide +kernel) rfl
theorem ml_X6_190 : Cond.methodLink RX6 190 yX6_lends ∈ lw_good := lw_goodIn 1152 (by decide +kernel) rfl
theorem ml_X6_193 : Cond.methodLink RX6 193 yX6_pullsDown ∈ lw_good := lw_goodIn 1160 (by decide +kernel) rfl
theorem ml_X6_196 : Cond.methodLink RX6 196 yX6_isLate ∈ lw_good := lw_goodIn 1172 (by decide +kernel) rfl
theorem ml_X6_199 : Cond.methodLink RX6 199 yX6_brokenMany ∈ lw_good := lw_goodIn 1176 (by decide +kernel) rfl
theorem ml_X6_202 : Cond.methodLink RX6 202 yX6_go ∈ lw_good := lw_goodIn 1180 (by decide +kernel) rfl
theorem ml_X6_205 : Cond.methodLink RX6 205 yX6_forceSet ∈ lw_good := lw_goodIn 1188 (by decide +kernel) rfl
theorem ml_X6_214 : Cond.methodLink RX6 214 yX6_findsBehind ∈ lw_good := lw_goodIn 1208 (by decide +kernel) rfl
theorem ml_X6_217 : Cond.methodLink RX6 217 yX6_findsOne ∈ lw_good := lw_goodIn 1200 (by decide +kernel) rfl
theorem ml_X6_221 : Cond.methodLink RX6 221 yX6_findsTwo ∈ lw_good := lw_goodIn 1204 (by decide +kernel) rfl
theorem ml_X6_227 : Cond.methodLink RX6 227 yX6_looseWith ∈ lw_good := lw_goodIn 1216 (by decide +kernel) rfl
theorem ml_X6_231 : Cond.methodLink RX6 231 yX6_held ∈ lw_good := lw_goodIn 1228 (by decide +kernel) rfl
theorem ml_X6_237 : Cond.methodLink RX6 237 yX6_holdsWith ∈ lw_good := lw_goodIn 1246 (by decide +kernel) rfl
theorem ml_X6_240 : Cond.methodLink RX6 240 yX6_isSheet ∈ lw_good := lw_goodIn 1236 (by decide +kernel) rfl
theorem ml_X6_247 : Cond.methodLink RX6 247 yX6_findWay ∈ lw_good := lw_goodIn 1242 (by decide +kernel) rfl
theorem ml_X6_250 : Cond.methodLink RX6 250 yX6_movedAs ∈ lw_good := lw_goodIn 1250 (by decide +kernel) rfl
theorem ml_X6_262 : Cond.methodLink RX6 262 yX6_byteAt ∈ lw_good := lw_goodIn 1278 (by decide +kernel) rfl
theorem ml_X6_265 : Cond.methodLink RX6 265 yX6_isLetter ∈ lw_good := lw_goodIn 1282 (by decide +kernel) rfl
theorem ml_X6_268 : Cond.methodLink RX6 268 yX6_isDigit ∈ lw_good := lw_goodIn 1285 (by decide +kernel) rfl
theorem ml_X6_289 : Cond.methodLink RX6 289 yX6_isWord ∈ lw_good := lw_goodIn 1296 (by decide +kernel) rfl
theorem ml_X6_307 : Cond.methodLink RX6 307 yX6_advance ∈ lw_good := lw_goodIn 1274 (by decide +kernel) rfl
theorem ml_X6_310 : Cond.methodLink RX6 310 yX6_wantNumber ∈ lw_good := lw_goodIn 1304 (by decide +kernel) rfl
theorem ml_X6_315 : Cond.methodLink RX6 315 yX6_wantWord ∈ lw_good := lw_goodIn 1309 (by decide +kernel) rfl
theorem ml_X6_323 : Cond.methodLink RX6 323 yX6_mayWant ∈ lw_good := lw_goodIn 1321 (by decide +kernel) rfl
theorem ml_X6_337 : Cond.methodLink RX6 337 yX6_wantKing ∈ lw_good := lw_goodIn 1300 (by decide +kernel) rfl
theorem ml_X6_342 : Cond.methodLink RX6 342 yX6_wantTreaty ∈ lw_good := lw_goodIn 1314 (by decide +kernel) rfl
theorem ml_X6_345 : Cond.methodLink RX6 345 yX6_kindHere ∈ lw_good := lw_goodIn 1325 (by decide +kernel) rfl
theorem ml_X6_348 : Cond.methodLink RX6 348 yX6_wantChild ∈ lw_good := lw_goodIn 1335 (by decide +kernel) rfl
theorem ml_X6_351 : Cond.methodLink RX6 351 yX6_moveAll ∈ lw_good := lw_goodIn 1266 (by decide +kernel) rfl
theorem ml_X6_355 : Cond.methodLink RX6 355 yX6_wantItem ∈ lw_good := lw_goodIn 1291 (by decide +kernel) rfl
theorem ml_X6_358 : Cond.methodLink RX6 358 yX6_narrow ∈ lw_good := lw_goodIn 1350 (by decide +kernel) rfl
theorem ml_X6_362 : Cond.methodLink RX6 362 yX6_isPart ∈ lw_good := lw_goodIn 1357 (by decide +kernel) rfl
theorem ml_X6_365 : Cond.methodLink RX6 365 yX6_rolled ∈ lw_good := lw_goodIn 1369 (by decide +kernel) rfl
theorem ml_X6_371 : Cond.methodLink RX6 371 yX6_moveRow ∈ lw_good := lw_goodIn 1270 (by decide +kernel) rfl
theorem ml_J0_335 : Cond.methodLink RJ0 335 yJ0_coder_7d493 ∈ lw_good := lw_goodIn 687 (by decide +kernel) rfl
theorem ml_J0_492 : Cond.methodLink RJ0 492 yJ0_isLatin1_aae02 ∈ lw_good := lw_goodIn 697 (by decide +kernel) rfl
theorem ml_J0_495 : Cond.methodLink RJ0 495 yJ1_charAt_3b067 ∈ lw_good := lw_goodIn 701 (by decide +kernel) rfl
theorem ml_J0_1059 : Cond.methodLink RJ0 1059 yJ3_checkIndex_8e157 ∈ lw_good := lw_goodIn 709 (by decide +kernel) rfl
theorem ml_J1_9 : Cond.methodLink RJ1 9 yJ0_checkIndex_df160 ∈ lw_good := lw_goodIn 704 (by decide +kernel) rfl
theorem ml_J2_414 : Cond.methodLink RJ2 414 yJ0_checkIndex_df160 ∈ lw_good := lw_goodIn 721 (by decide +kernel) rfl
theorem ml_L_13 : Cond.methodLink RL 13 yX5_fear ∈ lw_good := lw_goodIn 297 (by decide +kernel) rfl
theorem ml_L_17 : Cond.methodLink RL 17 yX6_fear ∈ lw_good := lw_goodIn 968 (by decide +kernel) rfl
theorem ml_L_18 : Cond.methodLink RL 18 yX5_kingOf ∈ lw_good := lw_goodIn 312 (by decide +kernel) rfl
theorem ml_L_21 : Cond.methodLink RL 21 yX6_kingOf ∈ lw_good := lw_goodIn 986 (by decide +kernel) rfl
theorem ml_L_22 : Cond.methodLink RL 22 yX5_child ∈ lw_good := lw_goodIn 340 (by decide +kernel) rfl
theorem ml_L_26 : Cond.methodLink RL 26 yX6_child ∈ lw_good := lw_goodIn 1006 (by decide +kernel) rfl
theorem ml_L_27 : Cond.methodLink RL 27 yX5_of ∈ lw_good := lw_goodIn 351 (by decide +kernel) rfl
theorem ml_L_30 : Cond.methodLink RL 30 yX6_of ∈ lw_good := lw_goodIn 1018 (by decide +kernel) rfl
theorem ml_L_31 : Cond.methodLink RL 31 yX5_move ∈ lw_good := lw_goodIn 375 (by decide +kernel) rfl
theorem ml_L_34 : Cond.methodLink RL 34 yX6_move ∈ lw_good := lw_goodIn 1034 (by decide +kernel) rfl
theorem ml_L_35 : Cond.methodLink RL 35 yX5_worth ∈ lw_good := lw_goodIn 379 (by decide +kernel) rfl
theorem ml_L_38 : Cond.methodLink RL 38 yX6_worth ∈ lw_good := lw_goodIn 1039 (by decide +kernel) rfl
theorem ml_L_39 : Cond.methodLink RL 39 yX5_turn ∈ lw_good := lw_goodIn 383 (by decide +kernel) rfl
theorem ml_L_42 : Cond.methodLink RL 42 yX6_turn ∈ lw_good := lw_goodIn 1043 (by decide +kernel) rfl
theorem ml_L_43 : Cond.methodLink RL 43 yX5_as ∈ lw_good := lw_goodIn 387 (by decide +kernel) rfl
theorem ml_L_46 : Cond.methodLink RL 46 yX6_as ∈ lw_good := lw_goodIn 1047 (by decide +kernel) rfl
theorem ml_L_47 : Cond.methodLink RL 47 yX5_dies ∈ lw_good := lw_goodIn 396 (by decide +kernel) rfl
theorem ml_L_51 : Cond.methodLink RL 51 yX6_dies ∈ lw_good := lw_goodIn 1055 (by decide +kernel) rfl
theorem ml_L_52 : Cond.methodLink RL 52 yX5_swap ∈ lw_good := lw_goodIn 414 (by decide +kernel) rfl
theorem ml_L_55 : Cond.methodLink RL 55 yX6_swap ∈ lw_good := lw_goodIn 1074 (by decide +kernel) rfl
theorem ml_L_56 : Cond.methodLink RL 56 yX5_treaty ∈ lw_good := lw_goodIn 418 (by decide +kernel) rfl
theorem ml_L_60 : Cond.methodLink RL 60 yX6_treaty ∈ lw_good := lw_goodIn 1078 (by decide +kernel) rfl
theorem ml_L_61 : Cond.methodLink RL 61 yX5_treatyOf ∈ lw_good := lw_goodIn 429 (by decide +kernel) rfl
theorem ml_L_64 : Cond.methodLink RL 64 yX6_treatyOf ∈ lw_good := lw_goodIn 1089 (by decide +kernel) rfl
theorem ml_L_65 : Cond.methodLink RL 65 yX5_gain ∈ lw_good := lw_goodIn 448 (by decide +kernel) rfl
theorem ml_L_68 : Cond.methodLink RL 68 yX6_gain ∈ lw_good := lw_goodIn 1100 (by decide +kernel) rfl
theorem ml_L_69 : Cond.methodLink RL 69 yX5_pledge ∈ lw_good := lw_goodIn 452 (by decide +kernel) rfl
theorem ml_L_72 : Cond.methodLink RL 72 yX6_pledge ∈ lw_good := lw_goodIn 1104 (by decide +kernel) rfl
theorem ml_L_73 : Cond.methodLink RL 73 yX5_ease ∈ lw_good := lw_goodIn 457 (by decide +kernel) rfl
theorem ml_L_76 : Cond.methodLink RL 76 yX6_ease ∈ lw_good := lw_goodIn 1111 (by decide +kernel) rfl
theorem ml_L_77 : Cond.methodLink RL 77 yX5_loose ∈ lw_good := lw_goodIn 461 (by decide +kernel) rfl
theorem ml_L_81 : Cond.methodLink RL 81 yX6_loose ∈ lw_good := lw_goodIn 1115 (by decide +kernel) rfl
theorem ml_L_82 : Cond.methodLink RL 82 yX5_pact ∈ lw_good := lw_goodIn 465 (by decide +kernel) rfl
theorem ml_L_85 : Cond.methodLink RL 85 yX6_pact ∈ lw_good := lw_goodIn 1119 (by decide +kernel) rfl
theorem ml_L_86 : Cond.methodLink RL 86 yX5_plot ∈ lw_good := lw_goodIn 476 (by decide +kernel) rfl
theorem ml_L_89 : Cond.methodLink RL 89 yX6_plot ∈ lw_good := lw_goodIn 1127 (by decide +kernel) rfl
theorem ml_L_90 : Cond.methodLink RL 90 yX5_fall ∈ lw_good := lw_goodIn 480 (by decide +kernel) rfl
theorem ml_L_93 : Cond.methodLink RL 93 yX6_fall ∈ lw_good := lw_goodIn 1132 (by decide +kernel) rfl
theorem ml_L_94 : Cond.methodLink RL 94 yX5_wouldFall ∈ lw_good := lw_goodIn 497 (by decide +kernel) rfl
theorem ml_L_97 : Cond.methodLink RL 97 yX6_wouldFall ∈ lw_good := lw_goodIn 1144 (by decide +kernel) rfl
theorem ml_L_98 : Cond.methodLink RL 98 yX5_pulls ∈ lw_good := lw_goodIn 508 (by decide +kernel) rfl
theorem ml_L_101 : Cond.methodLink RL 101 yX6_pulls ∈ lw_good := lw_goodIn 1156 (by decide +kernel) rfl
theorem ml_L_102 : Cond.methodLink RL 102 yX5_keystone ∈ lw_good := lw_goodIn 517 (by decide +kernel) rfl
theorem ml_L_105 : Cond.methodLink RL 105 yX6_keystone ∈ lw_good := lw_goodIn 1164 (by decide +kernel) rfl
theorem ml_L_106 : Cond.methodLink RL 106 yX5_months ∈ lw_good := lw_goodIn 521 (by decide +kernel) rfl
theorem ml_L_109 : Cond.methodLink RL 109 yX6_months ∈ lw_good := lw_goodIn 1168 (by decide +kernel) rfl
theorem ml_L_110 : Cond.methodLink RL 110 yX5_now ∈ lw_good := lw_goodIn 530 (by decide +kernel) rfl
theorem ml_L_113 : Cond.methodLink RL 113 yX6_now ∈ lw_good := lw_goodIn 1184 (by decide +kernel) rfl
theorem ml_L_114 : Cond.methodLink RL 114 yX5_on ∈ lw_good := lw_goodIn 546 (by decide +kernel) rfl
theorem ml_L_117 : Cond.methodLink RL 117 yX6_on ∈ lw_good := lw_goodIn 1192 (by decide +kernel) rfl
theorem ml_L_118 : Cond.methodLink RL 118 yX5_moves ∈ lw_good := lw_goodIn 550 (by decide +kernel) rfl
theorem ml_L_121 : Cond.methodLink RL 121 yX6_moves ∈ lw_good := lw_goodIn 1196 (by decide +kernel) rfl
theorem ml_L_122 : Cond.methodLink RL 122 yX5_best ∈ lw_good := lw_goodIn 584 (by decide +kernel) rfl
theorem ml_L_125 : Cond.methodLink RL 125 yX6_best ∈ lw_good := lw_goodIn 1212 (by decide +kernel) rfl
theorem ml_L_126 : Cond.methodLink RL 126 yX5_key ∈ lw_good := lw_goodIn 588 (by decide +kernel) rfl
theorem ml_L_129 : Cond.methodLink RL 129 yX6_key ∈ lw_good := lw_goodIn 1220 (by decide +kernel) rfl
theorem ml_L_130 : Cond.methodLink RL 130 yX5_toFree ∈ lw_good := lw_goodIn 592 (by decide +kernel) rfl
theorem ml_L_133 : Cond.methodLink RL 133 yX6_toFree ∈ lw_good := lw_goodIn 1224 (by decide +kernel) rfl
theorem ml_L_134 : Cond.methodLink RL 134 yX5_way ∈ lw_good := lw_goodIn 601 (by decide +kernel) rfl
theorem ml_L_137 : Cond.methodLink RL 137 yX6_way ∈ lw_good := lw_goodIn 1232 (by decide +kernel) rfl
theorem ml_L_138 : Cond.methodLink RL 138 yX5_feed ∈ lw_good := lw_goodIn 641 (by decide +kernel) rfl
theorem ml_L_141 : Cond.methodLink RL 141 yX6_feed ∈ lw_good := lw_goodIn 1254 (by decide +kernel) rfl
theorem ml_L_142 : Cond.methodLink RL 142 yX5_wipe ∈ lw_good := lw_goodIn 649 (by decide +kernel) rfl
theorem ml_L_145 : Cond.methodLink RL 145 yX6_wipe ∈ lw_good := lw_goodIn 1258 (by decide +kernel) rfl
theorem ml_L_146 : Cond.methodLink RL 146 yX5_court ∈ lw_good := lw_goodIn 653 (by decide +kernel) rfl
theorem ml_L_149 : Cond.methodLink RL 149 yX6_court ∈ lw_good := lw_goodIn 1262 (by decide +kernel) rfl
theorem ml_L_150 : Cond.methodLink RL 150 yX5_sheet ∈ lw_good := lw_goodIn 771 (by decide +kernel) rfl
theorem ml_L_153 : Cond.methodLink RL 153 yX6_sheet ∈ lw_good := lw_goodIn 1342 (by decide +kernel) rfl
theorem ml_L_156 : Cond.methodLink RL 156 yX5_write ∈ lw_good := lw_goodIn 779 (by decide +kernel) rfl
theorem ml_L_160 : Cond.methodLink RL 160 yX6_write ∈ lw_good := lw_goodIn 1346 (by decide +kernel) rfl
theorem ml_L_161 : Cond.methodLink RL 161 yX5_copy ∈ lw_good := lw_goodIn 787 (by decide +kernel) rfl
theorem ml_L_165 : Cond.methodLink RL 165 yX6_copy ∈ lw_good := lw_goodIn 1353 (by decide +kernel) rfl
theorem ml_L_166 : Cond.methodLink RL 166 yX5_lays ∈ lw_good := lw_goodIn 796 (by decide +kernel) rfl
theorem ml_L_169 : Cond.methodLink RL 169 yX6_lays ∈ lw_good := lw_goodIn 1361 (by decide +kernel) rfl
theorem ml_L_170 : Cond.methodLink RL 170 yX5_roll ∈ lw_good := lw_goodIn 801 (by decide +kernel) rfl
theorem ml_L_173 : Cond.methodLink RL 173 yX6_roll ∈ lw_good := lw_goodIn 1365 (by decide +kernel) rfl
theorem ml_L_174 : Cond.methodLink RL 174 yX5_read ∈ lw_good := lw_goodIn 810 (by decide +kernel) rfl
theorem ml_L_177 : Cond.methodLink RL 177 yX6_read ∈ lw_good := lw_goodIn 1373 (by decide +kernel) rfl
theorem ml_L_178 : Cond.methodLink RL 178 yX5_image ∈ lw_good := lw_goodIn 814 (by decide +kernel) rfl
theorem ml_L_181 : Cond.methodLink RL 181 yX6_image ∈ lw_good := lw_goodIn 1377 (by decide +kernel) rfl
theorem ml_L_182 : Cond.methodLink RL 182 yX5_undo ∈ lw_good := lw_goodIn 818 (by decide +kernel) rfl
theorem ml_L_185 : Cond.methodLink RL 185 yX6_undo ∈ lw_good := lw_goodIn 1381 (by decide +kernel) rfl
theorem ml_L_186 : Cond.methodLink RL 186 yX5_tear ∈ lw_good := lw_goodIn 822 (by decide +kernel) rfl
theorem ml_L_189 : Cond.methodLink RL 189 yX6_tear ∈ lw_good := lw_goodIn 1385 (by decide +kernel) rfl
theorem ml_L_190 : Cond.methodLink RL 190 yX5_count ∈ lw_good := lw_goodIn 826 (by decide +kernel) rfl
theorem ml_L_193 : Cond.methodLink RL 193 yX6_count ∈ lw_good := lw_goodIn 1389 (by decide +kernel) rfl
theorem ml_L_194 : Cond.methodLink RL 194 yX5_status ∈ lw_good := lw_goodIn 834 (by decide +kernel) rfl
theorem ml_L_197 : Cond.methodLink RL 197 yX6_status ∈ lw_good := lw_goodIn 1393 (by decide +kernel) rfl
theorem fl_X1_9 : FL RX1 9 1 0 := ⟨RX1, TX1, 15, rfl, by decide, inX1, lw_goodIn 98 (by decide +kernel) rfl⟩
theorem fl_X5_66 : FL RX5 66 1 0 := ⟨RX1, TX1, 15, rfl, by decide, inX1, lw_goodIn 99 (by decide +kernel) rfl⟩
theorem fl_X4_63 : FL RX4 63 1 0 := ⟨RX1, TX1, 15, rfl, by decide, inX1, lw_goodIn 100 (by decide +kernel) rfl⟩
theorem fl_X1_15 : FL RX1 15 1 1 := ⟨RX1, TX1, 15, rfl, by decide, inX1, lw_goodIn 101 (by decide +kernel) rfl⟩
theorem fl_X5_92 : FL RX5 92 1 1 := ⟨RX1, TX1, 15, rfl, by decide, inX1, lw_goodIn 102 (by decide +kernel) rfl⟩
theorem fl_X1_18 : FL RX1 18 1 2 := ⟨RX1, TX1, 15, rfl, by decide, inX1, lw_goodIn 103 (by decide +kernel) rfl⟩
theorem fl_X5_95 : FL RX5 95 1 2 := ⟨RX1, TX1, 15, rfl, by decide, inX1, lw_goodIn 104 (by decide +kernel) rfl⟩
theorem fl_X0_68 : FL RX0 68 1 2 := ⟨RX1, TX1, 15, rfl, by decide, inX1, lw_goodIn 105 (by decide +kernel) rfl⟩
theorem fl_X1_21 : FL RX1 21 1 3 := ⟨RX1, TX1, 15, rfl, by decide, inX1, lw_goodIn 106 (by decide +kernel) rfl⟩
theorem fl_X2_48 : FL RX2 48 1 3 := ⟨RX1, TX1, 15, rfl, by decide, inX1, lw_goodIn 107 (by decide +kernel) rfl⟩
theorem fl_X0_48 : FL RX0 48 1 3 := ⟨RX1, TX1, 15, rfl, by decide, inX1, lw_goodIn 108 (by decide +kernel) rfl⟩
theorem fl_X5_98 : FL RX5 98 1 3 := ⟨RX1, TX1, 15, rfl, by decide, inX1, lw_goodIn 109 (by decide +kernel) rfl⟩
theorem fl_X1_24 : FL RX1 24 1 4 := ⟨RX1, TX1, 15, rfl, by decide, inX1, lw_goodIn 110 (by decide +kernel) rfl⟩
theorem fl_X5_101 : FL RX5 101 1 4 := ⟨RX1, TX1, 15, rfl, by decide, inX1, lw_goodIn 111 (by decide +kernel) rfl⟩
theorem fl_X1_27 : FL RX1 27 1 5 := ⟨RX1, TX1, 15, rfl, by decide, inX1, lw_goodIn 112 (by decide +kernel) rfl⟩
theorem fl_X5_137 : FL RX5 137 1 5 := ⟨RX1, TX1, 15, rfl, by decide, inX1, lw_goodIn 113 (by decide +kernel) rfl⟩
theorem fl_X1_30 : FL RX1 30 1 6 := ⟨RX1, TX1, 15, rfl, by decide, inX1, lw_goodIn 114 (by decide +kernel) rfl⟩
theorem fl_X5_140 : FL RX5 140 1 6 := ⟨RX1, TX1, 15, rfl, by decide, inX1, lw_goodIn 115 (by decide +kernel) rfl⟩
theorem fl_X1_33 : FL RX1 33 1 7 := ⟨RX1, TX1, 15, rfl, by decide, inX1, lw_goodIn 116 (by decide +kernel) rfl⟩
theorem fl_X5_143 : FL RX5 143 1 7 := ⟨RX1, TX1, 15, rfl, by decide, inX1, lw_goodIn 117 (by decide +kernel) rfl⟩
theorem fl_X1_36 : FL RX1 36 1 8 := ⟨RX1, TX1, 15, rfl, by decide, inX1, lw_goodIn 118 (by decide +kernel) rfl⟩
theorem fl_X5_146 : FL RX5 146 1 8 := ⟨RX1, TX1, 15, rfl, by decide, inX1, lw_goodIn 119 (by decide +kernel) rfl⟩
theorem fl_X1_39 : FL RX1 39 1 9 := ⟨RX1, TX1, 15, rfl, by decide, inX1, lw_goodIn 120 (by decide +kernel) rfl⟩
theorem fl_X2_36 : FL RX2 36 1 10 := ⟨RX1, TX1, 15, rfl, by decide, inX1, lw_goodIn 121 (by decide +kernel) rfl⟩
theorem fl_X1_48 : FL RX1 48 1 10 := ⟨RX1, TX1, 15, rfl, by decide, inX1, lw_goodIn 122 (by decide +kernel) rfl⟩
theorem fl_X0_37 : FL RX0 37 1 10 := ⟨RX1, TX1, 15, rfl, by decide, inX1, lw_goodIn 123 (by decide +kernel) rfl⟩
theorem fl_X5_81 : FL RX5 81 1 10 := ⟨RX1, TX1, 15, rfl, by decide, inX1, lw_goodIn 124 (by decide +kernel) rfl⟩
theorem fl_X4_68 : FL RX4 68 1 10 := ⟨RX1, TX1, 15, rfl, by decide, inX1, lw_goodIn 125 (by decide +kernel) rfl⟩
theorem fl_X1_52 : FL RX1 52 1 11 := ⟨RX1, TX1, 15, rfl, by decide, inX1, lw_goodIn 126 (by decide +kernel) rfl⟩
theorem fl_X4_81 : FL RX4 81 1 11 := ⟨RX1, TX1, 15, rfl, by decide, inX1, lw_goodIn 127 (by decide +kernel) rfl⟩
theorem fl_X5_128 : FL RX5 128 1 11 := ⟨RX1, TX1, 15, rfl, by decide, inX1, lw_goodIn 128 (by decide +kernel) rfl⟩
theorem fl_X1_55 : FL RX1 55 1 12 := ⟨RX1, TX1, 15, rfl, by decide, inX1, lw_goodIn 129 (by decide +kernel) rfl⟩
theorem fl_X5_117 : FL RX5 117 1 12 := ⟨RX1, TX1, 15, rfl, by decide, inX1, lw_goodIn 130 (by decide +kernel) rfl⟩
theorem fl_X1_58 : FL RX1 58 1 13 := ⟨RX1, TX1, 15, rfl, by decide, inX1, lw_goodIn 131 (by decide +kernel) rfl⟩
theorem fl_X5_172 : FL RX5 172 1 13 := ⟨RX1, TX1, 15, rfl, by decide, inX1, lw_goodIn 132 (by decide +kernel) rfl⟩
theorem fl_X1_61 : FL RX1 61 1 14 := ⟨RX1, TX1, 15, rfl, by decide, inX1, lw_goodIn 133 (by decide +kernel) rfl⟩
theorem fl_X5_178 : FL RX5 178 1 14 := ⟨RX1, TX1, 15, rfl, by decide, inX1, lw_goodIn 134 (by decide +kernel) rfl⟩
theorem fl_X0_12 : FL RX0 12 0 0 := ⟨RX0, TX0, 4, rfl, by decide, inX0, lw_goodIn 175 (by decide +kernel) rfl⟩
theorem fl_X0_22 : FL RX0 22 0 1 := ⟨RX0, TX0, 4, rfl, by decide, inX0, lw_goodIn 176 (by decide +kernel) rfl⟩
theorem fl_X0_55 : FL RX0 55 0 2 := ⟨RX0, TX0, 4, rfl, by decide, inX0, lw_goodIn 177 (by decide +kernel) rfl⟩
theorem fl_X5_198 : FL RX5 198 0 2 := ⟨RX0, TX0, 4, rfl, by decide, inX0, lw_goodIn 178 (by decide +kernel) rfl⟩
theorem fl_X0_61 : FL RX0 61 0 3 := ⟨RX0, TX0, 4, rfl, by decide, inX0, lw_goodIn 179 (by decide +kernel) rfl⟩
theorem fl_X5_201 : FL RX5 201 0 3 := ⟨RX0, TX0, 4, rfl, by decide, inX0, lw_goodIn 180 (by decide +kernel) rfl⟩
theorem fl_X2_12 : FL RX2 12 2 0 := ⟨RX2, TX2, 6, rfl, by decide, inX2, lw_goodIn 198 (by decide +kernel) rfl⟩
theorem fl_X2_18 : FL RX2 18 2 1 := ⟨RX2, TX2, 6, rfl, by decide, inX2, lw_goodIn 199 (by decide +kernel) rfl⟩
theorem fl_X2_22 : FL RX2 22 2 2 := ⟨RX2, TX2, 6, rfl, by decide, inX2, lw_goodIn 200 (by decide +kernel) rfl⟩
theorem fl_X2_25 : FL RX2 25 2 3 := ⟨RX2, TX2, 6, rfl, by decide, inX2, lw_goodIn 201 (by decide +kernel) rfl⟩
theorem fl_X2_29 : FL RX2 29 2 4 := ⟨RX2, TX2, 6, rfl, by decide, inX2, lw_goodIn 202 (by decide +kernel) rfl⟩
theorem fl_X5_232 : FL RX5 232 2 4 := ⟨RX2, TX2, 6, rfl, by decide, inX2, lw_goodIn 203 (by decide +kernel) rfl⟩
theorem fl_X2_32 : FL RX2 32 2 5 := ⟨RX2, TX2, 6, rfl, by decide, inX2, lw_goodIn 204 (by decide +kernel) rfl⟩
theorem fl_X5_222 : FL RX5 222 2 5 := ⟨RX2, TX2, 6, rfl, by decide, inX2, lw_goodIn 205 (by decide +kernel) rfl⟩
theorem fl_X4_9 : FL RX4 9 4 0 := ⟨RX4, TX4, 6, rfl, by decide, inX4, lw_goodIn 226 (by decide +kernel) rfl⟩
theorem fl_X4_15 : FL RX4 15 4 1 := ⟨RX4, TX4, 6, rfl, by decide, inX4, lw_goodIn 227 (by decide +kernel) rfl⟩
theorem fl_X5_235 : FL RX5 235 4 1 := ⟨RX4, TX4, 6, rfl, by decide, inX4, lw_goodIn 228 (by decide +kernel) rfl⟩
theorem fl_X4_29 : FL RX4 29 4 2 := ⟨RX4, TX4, 6, rfl, by decide, inX4, lw_goodIn 229 (by decide +kernel) rfl⟩
theorem fl_X4_96 : FL RX4 96 4 3 := ⟨RX4, TX4, 6, rfl, by decide, inX4, lw_goodIn 230 (by decide +kernel) rfl⟩
theorem fl_X5_244 : FL RX5 244 4 3 := ⟨RX4, TX4, 6, rfl, by decide, inX4, lw_goodIn 231 (by decide +kernel) rfl⟩
theorem fl_X4_19 : FL RX4 19 4 4 := ⟨RX4, TX4, 6, rfl, by decide, inX4, lw_goodIn 232 (by decide +kernel) rfl⟩
theorem fl_X4_86 : FL RX4 86 4 5 := ⟨RX4, TX4, 6, rfl, by decide, inX4, lw_goodIn 233 (by decide +kernel) rfl⟩
theorem fl_X3_9 : FL RX3 9 3 0 := ⟨RX3, TX3, 3, rfl, by decide, inX3, lw_goodIn 254 (by decide +kernel) rfl⟩
theorem fl_X5_252 : FL RX5 252 3 0 := ⟨RX3, TX3, 3, rfl, by decide, inX3, lw_goodIn 255 (by decide +kernel) rfl⟩
theorem fl_X3_15 : FL RX3 15 3 1 := ⟨RX3, TX3, 3, rfl, by decide, inX3, lw_goodIn 256 (by decide +kernel) rfl⟩
theorem fl_X5_260 : FL RX5 260 3 1 := ⟨RX3, TX3, 3, rfl, by decide, inX3, lw_goodIn 257 (by decide +kernel) rfl⟩
theorem fl_X2_39 : FL RX2 39 3 2 := ⟨RX3, TX3, 3, rfl, by decide, inX3, lw_goodIn 258 (by decide +kernel) rfl⟩
theorem fl_X3_19 : FL RX3 19 3 2 := ⟨RX3, TX3, 3, rfl, by decide, inX3, lw_goodIn 259 (by decide +kernel) rfl⟩
theorem fl_X5_251 : FL RX5 251 3 2 := ⟨RX3, TX3, 3, rfl, by decide, inX3, lw_goodIn 260 (by decide +kernel) rfl⟩
theorem fl_X5_10 : FL RX5 10 5 0 := ⟨RX5, TX5, 9, rfl, by decide, inX5, lw_goodIn 269 (by decide +kernel) rfl⟩
theorem fl_X5_16 : FL RX5 16 5 1 := ⟨RX5, TX5, 9, rfl, by decide, inX5, lw_goodIn 270 (by decide +kernel) rfl⟩
theorem fl_X5_19 : FL RX5 19 5 2 := ⟨RX5, TX5, 9, rfl, by decide, inX5, lw_goodIn 271 (by decide +kernel) rfl⟩
theorem fl_X5_25 : FL RX5 25 5 3 := ⟨RX5, TX5, 9, rfl, by decide, inX5, lw_goodIn 272 (by decide +kernel) rfl⟩
theorem fl_X5_32 : FL RX5 32 5 4 := ⟨RX5, TX5, 9, rfl, by decide, inX5, lw_goodIn 273 (by decide +kernel) rfl⟩
theorem fl_X5_39 : FL RX5 39 5 5 := ⟨RX5, TX5, 9, rfl, by decide, inX5, lw_goodIn 274 (by decide +kernel) rfl⟩
theorem fl_X5_45 : FL RX5 45 5 6 := ⟨RX5, TX5, 9, rfl, by decide, inX5, lw_goodIn 275 (by decide +kernel) rfl⟩
theorem fl_X5_49 : FL RX5 49 5 7 := ⟨RX5, TX5, 9, rfl, by decide, inX5, lw_goodIn 276 (by decide +kernel) rfl⟩
theorem fl_X5_283 : FL RX5 283 5 8 := ⟨RX5, TX5, 9, rfl, by decide, inX5, lw_goodIn 277 (by decide +kernel) rfl⟩
theorem sl_X5_291 : Cond.fieldLink RX5 291 RX5 "KIND_ABOVE" "[I" ∈ lw_good := lw_goodIn 394 (by decide +kernel) rfl
theorem sl_J0_38 : Cond.fieldLink RJ0 38 RJ0 "COMPACT_STRINGS" "Z" ∈ lw_good := lw_goodIn 691 (by decide +kernel) rfl
theorem sl_J0_1053 : Cond.fieldLink RJ0 1053 RJ3 "SIOOBE_FORMATTER" "Ljava/util/function/BiFunction;" ∈ lw_good := lw_goodIn 707 (by decide +kernel) rfl
theorem sl_J2_44 : Cond.fieldLink RJ2 44 RJ2 "$assertionsDisabled" "Z" ∈ lw_good := lw_goodIn 725 (by decide +kernel) rfl
theorem sl_J2_59 : Cond.fieldLink RJ2 59 RJ2 "HI_BYTE_SHIFT" "I" ∈ lw_good := lw_goodIn 727 (by decide +kernel) rfl
theorem sl_J2_63 : Cond.fieldLink RJ2 63 RJ2 "LO_BYTE_SHIFT" "I" ∈ lw_good := lw_goodIn 729 (by decide +kernel) rfl
theorem fl_X6_7 : FL RX6 7 6 0 := ⟨RX6, TX6, 41, rfl, by decide, inX6, lw_goodIn 844 (by decide +kernel) rfl⟩
theorem fl_X6_83 : FL RX6 83 6 1 := ⟨RX6, TX6, 41, rfl, by decide, inX6, lw_goodIn 845 (by decide +kernel) rfl⟩
theorem fl_X6_13 : FL RX6 13 6 2 := ⟨RX6, TX6, 41, rfl, by decide, inX6, lw_goodIn 846 (by decide +kernel) rfl⟩
theorem fl_X6_16 : FL RX6 16 6 3 := ⟨RX6, TX6, 41, rfl, by decide, inX6, lw_goodIn 847 (by decide +kernel) rfl⟩
theorem fl_X6_19 : FL RX6 19 6 4 := ⟨RX6, TX6, 41, rfl, by decide, inX6, lw_goodIn 848 (by decide +kernel) rfl⟩
theorem fl_X6_87 : FL RX6 87 6 5 := ⟨RX6, TX6, 41, rfl, by decide, inX6, lw_goodIn 849 (by decide +kernel) rfl⟩
theorem fl_X6_22 : FL RX6 22 6 6 := ⟨RX6, TX6, 41, rfl, by decide, inX6, lw_goodIn 850 (by decide +kernel) rfl⟩
theorem fl_X6_25 : FL RX6 25 6 7 := ⟨RX6, TX6, 41, rfl, by decide, inX6, lw_goodIn 851 (by decide +kernel) rfl⟩
theorem fl_X6_28 : FL RX6 28 6 8 := ⟨RX6, TX6, 41, rfl, by decide, inX6, lw_goodIn 852 (by decide +kernel) rfl⟩
theorem fl_X6_31 : FL RX6 31 6 9 := ⟨RX6, TX6, 41, rfl, by decide, inX6, lw_goodIn 853 (by decide +kernel) rfl⟩
theorem fl_X6_34 : FL RX6 34 6 10 := ⟨RX6, TX6, 41, rfl, by decide, inX6, lw_goodIn 854 (by decide +kernel) rfl⟩
theorem fl_X6_90 : FL RX6 90 6 11 := ⟨RX6, TX6, 41, rfl, by decide, inX6, lw_goodIn 855 (by decide +kernel) rfl⟩
theorem fl_X6_37 : FL RX6 37 6 12 := ⟨RX6, TX6, 41, rfl, by decide, inX6, lw_goodIn 856 (by decide +kernel) rfl⟩
theorem fl_X6_40 : FL RX6 40 6 13 := ⟨RX6, TX6, 41, rfl, by decide, inX6, lw_goodIn 857 (by decide +kernel) rfl⟩
theorem fl_X6_171 : FL RX6 171 6 14 := ⟨RX6, TX6, 41, rfl, by decide, inX6, lw_goodIn 858 (by decide +kernel) rfl⟩
theorem fl_X6_174 : FL RX6 174 6 15 := ⟨RX6, TX6, 41, rfl, by decide, inX6, lw_goodIn 859 (by decide +kernel) rfl⟩
theorem fl_X6_177 : FL RX6 177 6 16 := ⟨RX6, TX6, 41, rfl, by decide, inX6, lw_goodIn 860 (by decide +kernel) rfl⟩
theorem fl_X6_224 : FL RX6 224 6 17 := ⟨RX6, TX6, 41, rfl, by decide, inX6, lw_goodIn 861 (by decide +kernel) rfl⟩
theorem fl_X6_208 : FL RX6 208 6 18 := ⟨RX6, TX6, 41, rfl, by decide, inX6, lw_goodIn 862 (by decide +kernel) rfl⟩
theorem fl_X6_211 : FL RX6 211 6 19 := ⟨RX6, TX6, 41, rfl, by decide, inX6, lw_goodIn 863 (by decide +kernel) rfl⟩
theorem fl_X6_43 : FL RX6 43 6 20 := ⟨RX6, TX6, 41, rfl, by decide, inX6, lw_goodIn 864 (by decide +kernel) rfl⟩
theorem fl_X6_46 : FL RX6 46 6 21 := ⟨RX6, TX6, 41, rfl, by decide, inX6, lw_goodIn 865 (by decide +kernel) rfl⟩
theorem fl_X6_49 : FL RX6 49 6 22 := ⟨RX6, TX6, 41, rfl, by decide, inX6, lw_goodIn 866 (by decide +kernel) rfl⟩
theorem fl_X6_234 : FL RX6 234 6 23 := ⟨RX6, TX6, 41, rfl, by decide, inX6, lw_goodIn 867 (by decide +kernel) rfl⟩
theorem fl_X6_53 : FL RX6 53 6 24 := ⟨RX6, TX6, 41, rfl, by decide, inX6, lw_goodIn 868 (by decide +kernel) rfl⟩
theorem fl_X6_253 : FL RX6 253 6 25 := ⟨RX6, TX6, 41, rfl, by decide, inX6, lw_goodIn 869 (by decide +kernel) rfl⟩
theorem fl_X6_271 : FL RX6 271 6 26 := ⟨RX6, TX6, 41, rfl, by decide, inX6, lw_goodIn 870 (by decide +kernel) rfl⟩
theorem fl_X6_259 : FL RX6 259 6 27 := ⟨RX6, TX6, 41, rfl, by decide, inX6, lw_goodIn 871 (by decide +kernel) rfl⟩
theorem fl_X6_256 : FL RX6 256 6 28 := ⟨RX6, TX6, 41, rfl, by decide, inX6, lw_goodIn 872 (by decide +kernel) rfl⟩
theorem fl_X6_274 : FL RX6 274 6 29 := ⟨RX6, TX6, 41, rfl, by decide, inX6, lw_goodIn 873 (by decide +kernel) rfl⟩
theorem fl_X6_278 : FL RX6 278 6 30 := ⟨RX6, TX6, 41, rfl, by decide, inX6, lw_goodIn 874 (by decide +kernel) rfl⟩
theorem fl_X6_303 : FL RX6 303 6 31 := ⟨RX6, TX6, 41, rfl, by decide, inX6, lw_goodIn 875 (by decide +kernel) rfl⟩
theorem fl_X6_56 : FL RX6 56 6 32 := ⟨RX6, TX6, 41, rfl, by decide, inX6, lw_goodIn 876 (by decide +kernel) rfl⟩
theorem fl_X6_59 : FL RX6 59 6 33 := ⟨RX6, TX6, 41, rfl, by decide, inX6, lw_goodIn 877 (by decide +kernel) rfl⟩
theorem fl_X6_62 : FL RX6 62 6 34 := ⟨RX6, TX6, 41, rfl, by decide, inX6, lw_goodIn 878 (by decide +kernel) rfl⟩
theorem fl_X6_66 : FL RX6 66 6 35 := ⟨RX6, TX6, 41, rfl, by decide, inX6, lw_goodIn 879 (by decide +kernel) rfl⟩
theorem fl_X6_69 : FL RX6 69 6 36 := ⟨RX6, TX6, 41, rfl, by decide, inX6, lw_goodIn 880 (by decide +kernel) rfl⟩
theorem fl_X6_72 : FL RX6 72 6 37 := ⟨RX6, TX6, 41, rfl, by decide, inX6, lw_goodIn 881 (by decide +kernel) rfl⟩
theorem fl_X6_375 : FL RX6 375 6 38 := ⟨RX6, TX6, 41, rfl, by decide, inX6, lw_goodIn 882 (by decide +kernel) rfl⟩
theorem fl_X6_368 : FL RX6 368 6 39 := ⟨RX6, TX6, 41, rfl, by decide, inX6, lw_goodIn 883 (by decide +kernel) rfl⟩
theorem fl_X6_75 : FL RX6 75 6 40 := ⟨RX6, TX6, 41, rfl, by decide, inX6, lw_goodIn 884 (by decide +kernel) rfl⟩
theorem sl_J0_9 : Cond.fieldLink RJ0 9 RJ0 "value" "[B" ∈ lw_good := lw_goodIn 1398 (by decide +kernel) rfl
theorem sl_J0_15 : Cond.fieldLink RJ0 15 RJ0 "coder" "B" ∈ lw_good := lw_goodIn 1399 (by decide +kernel) rfl
theorem fp_X0_1 : FP 0 1 .int := ⟨RX0, TX0, 4, tyX0, rfl, tyX0_ok, nmX0, rfl, by decide +kernel⟩
theorem fp_X0_2 : FP 0 2 .int := ⟨RX0, TX0, 4, tyX0, rfl, tyX0_ok, nmX0, rfl, by decide +kernel⟩
theorem fp_X0_3 : FP 0 3 .int := ⟨RX0, TX0, 4, tyX0, rfl, tyX0_ok, nmX0, rfl, by decide +kernel⟩
theorem fp_X1_10 : FP 1 10 .int := ⟨RX1, TX1, 15, tyX1, rfl, tyX1_ok, nmX1, rfl, by decide +kernel⟩
theorem fp_X1_11 : FP 1 11 .int := ⟨RX1, TX1, 15, tyX1, rfl, tyX1_ok, nmX1, rfl, by decide +kernel⟩
theorem fp_X1_12 : FP 1 12 .int := ⟨RX1, TX1, 15, tyX1, rfl, tyX1_ok, nmX1, rfl, by decide +kernel⟩
theorem fp_X1_13 : FP 1 13 .int := ⟨RX1, TX1, 15, tyX1, rfl, tyX1_ok, nmX1, rfl, by decide +kernel⟩
theorem fp_X1_14 : FP 1 14 .int := ⟨RX1, TX1, 15, tyX1, rfl, tyX1_ok, nmX1, rfl, by decide +kernel⟩
theorem fp_X2_5 : FP 2 5 .int := ⟨RX2, TX2, 6, tyX2, rfl, tyX2_ok, nmX2, rfl, by decide +kernel⟩
theorem fp_X3_1 : FP 3 1 .int := ⟨RX3, TX3, 3, tyX3, rfl, tyX3_ok, nmX3, rfl, by decide +kernel⟩
theorem fp_X3_2 : FP 3 2 .int := ⟨RX3, TX3, 3, tyX3, rfl, tyX3_ok, nmX3, rfl, by decide +kernel⟩
theorem fp_X4_1 : FP 4 1 .int := ⟨RX4, TX4, 6, tyX4, rfl, tyX4_ok, nmX4, rfl, by decide +kernel⟩
theorem fp_X4_2 : FP 4 2 .int := ⟨RX4, TX4, 6, tyX4, rfl, tyX4_ok, nmX4, rfl, by decide +kernel⟩
theorem fp_X4_3 : FP 4 3 .int := ⟨RX4, TX4, 6, tyX4, rfl, tyX4_ok, nmX4, rfl, by decide +kernel⟩
theorem fp_X4_4 : FP 4 4 .int := ⟨RX4, TX4, 6, tyX4, rfl, tyX4_ok, nmX4, rfl, by decide +kernel⟩
theorem fp_X4_5 : FP 4 5 .int := ⟨RX4, TX4, 6, tyX4, rfl, tyX4_ok, nmX4, rfl, by decide +kernel⟩
theorem fp_X5_8 : FP 5 8 .boolean := ⟨RX5, TX5, 9, tyX5, rfl, tyX5_ok, nmX5, rfl, by decide +kernel⟩
theorem fp_X6_1 : FP 6 1 .int := ⟨RX6, TX6, 41, tyX6, rfl, tyX6_ok, nmX6, rfl, by decide +kernel⟩
theorem fp_X6_5 : FP 6 5 .int := ⟨RX6, TX6, 41, tyX6, rfl, tyX6_ok, nmX6, rfl, by decide +kernel⟩
theorem fp_X6_11 : FP 6 11 .int := ⟨RX6, TX6, 41, tyX6, rfl, tyX6_ok, nmX6, rfl, by decide +kernel⟩
theorem fp_X6_14 : FP 6 14 .int := ⟨RX6, TX6, 41, tyX6, rfl, tyX6_ok, nmX6, rfl, by decide +kernel⟩
theorem fp_X6_15 : FP 6 15 .int := ⟨RX6, TX6, 41, tyX6, rfl, tyX6_ok, nmX6, rfl, by decide +kernel⟩
theorem fp_X6_16 : FP 6 16 .int := ⟨RX6, TX6, 41, tyX6, rfl, tyX6_ok, nmX6, rfl, by decide +kernel⟩
theorem fp_X6_17 : FP 6 17 .int := ⟨RX6, TX6, 41, tyX6, rfl, tyX6_ok, nmX6, rfl, by decide +kernel⟩
theorem fp_X6_18 : FP 6 18 .int := ⟨RX6, TX6, 41, tyX6, rfl, tyX6_ok, nmX6, rfl, by decide +kernel⟩
theorem fp_X6_19 : FP 6 19 .int := ⟨RX6, TX6, 41, tyX6, rfl, tyX6_ok, nmX6, rfl, by decide +kernel⟩
theorem fp_X6_23 : FP 6 23 .int := ⟨RX6, TX6, 41, tyX6, rfl, tyX6_ok, nmX6, rfl, by decide +kernel⟩
theorem fp_X6_25 : FP 6 25 .int := ⟨RX6, TX6, 41, tyX6, rfl, tyX6_ok, nmX6, rfl, by decide +kernel⟩
theorem fp_X6_26 : FP 6 26 .int := ⟨RX6, TX6, 41, tyX6, rfl, tyX6_ok, nmX6, rfl, by decide +kernel⟩
theorem fp_X6_27 : FP 6 27 .int := ⟨RX6, TX6, 41, tyX6, rfl, tyX6_ok, nmX6, rfl, by decide +kernel⟩
theorem fp_X6_28 : FP 6 28 .int := ⟨RX6, TX6, 41, tyX6, rfl, tyX6_ok, nmX6, rfl, by decide +kernel⟩
theorem fp_X6_29 : FP 6 29 .long := ⟨RX6, TX6, 41, tyX6, rfl, tyX6_ok, nmX6, rfl, by decide +kernel⟩
theorem fp_X6_30 : FP 6 30 .int := ⟨RX6, TX6, 41, tyX6, rfl, tyX6_ok, nmX6, rfl, by decide +kernel⟩
theorem fp_X6_31 : FP 6 31 .boolean := ⟨RX6, TX6, 41, tyX6, rfl, tyX6_ok, nmX6, rfl, by decide +kernel⟩
theorem fp_X6_38 : FP 6 38 .boolean := ⟨RX6, TX6, 41, tyX6, rfl, tyX6_ok, nmX6, rfl, by decide +kernel⟩
theorem fp_X6_39 : FP 6 39 .int := ⟨RX6, TX6, 41, tyX6, rfl, tyX6_ok, nmX6, rfl, by decide +kernel⟩
theorem kc_X5_290 : Cond.constant RX5 290 (-1000000001) ∈ lw_good := lw_goodIn 311 (by decide +kernel) rfl
theorem kc_J6_265 : Cond.constant RJ6 265 (1431655765) ∈ lw_good := lw_goodIn 411 (by decide +kernel) rfl
theorem kc_J6_266 : Cond.constant RJ6 266 (858993459) ∈ lw_good := lw_goodIn 412 (by decide +kernel) rfl
theorem kc_J6_267 : Cond.constant RJ6 267 (252645135) ∈ lw_good := lw_goodIn 413 (by decide +kernel) rfl
theorem kc_X3_22 : Cond.constantLong RX3 22 (6) ∈ lw_good := lw_goodIn 621 (by decide +kernel) rfl
theorem kc_X6_78 : Cond.constant RX6 78 (-1000000001) ∈ lw_good := lw_goodIn 981 (by decide +kernel) rfl
theorem kc_X6_131 : Cond.constant RX6 131 (-1000000002) ∈ lw_good := lw_goodIn 1013 (by decide +kernel) rfl
theorem kc_X6_139 : Cond.constant RX6 139 (-1000000005) ∈ lw_good := lw_goodIn 1038 (by decide +kernel) rfl
theorem kc_X6_144 : Cond.constant RX6 144 (-1000000003) ∈ lw_good := lw_goodIn 1054 (by decide +kernel) rfl
theorem kc_X6_170 : Cond.constant RX6 170 (-1000000004) ∈ lw_good := lw_goodIn 1131 (by decide +kernel) rfl
theorem kc_X6_243 : Cond.constant RX6 243 (-1000000006) ∈ lw_good := lw_goodIn 1239 (by decide +kernel) rfl
theorem kc_X6_244 : Cond.constantLong RX6 244 (5) ∈ lw_good := lw_goodIn 1240 (by decide +kernel) rfl
theorem kc_X6_246 : Cond.constant RX6 246 (-1000000007) ∈ lw_good := lw_goodIn 1241 (by decide +kernel) rfl
theorem kc_X6_281 : Cond.constantLong RX6 281 (27) ∈ lw_good := lw_goodIn 1288 (by decide +kernel) rfl
theorem kc_X6_283 : Cond.constantLong RX6 283 (96) ∈ lw_good := lw_goodIn 1289 (by decide +kernel) rfl
theorem kc_X6_285 : Cond.constantLong RX6 285 (-1) ∈ lw_good := lw_goodIn 1290 (by decide +kernel) rfl
theorem kc_X6_335 : Cond.constantLong RX6 335 (223459) ∈ lw_good := lw_goodIn 1295 (by decide +kernel) rfl
theorem kc_X6_313 : Cond.constantLong RX6 313 (121788) ∈ lw_good := lw_goodIn 1308 (by decide +kernel) rfl
theorem kc_X6_340 : Cond.constantLong RX6 340 (464134) ∈ lw_good := lw_goodIn 1313 (by decide +kernel) rfl
theorem kc_X6_329 : Cond.constantLong RX6 329 (555) ∈ lw_good := lw_goodIn 1318 (by decide +kernel) rfl
theorem kc_X6_331 : Cond.constantLong RX6 331 (138767) ∈ lw_good := lw_goodIn 1319 (by decide +kernel) rfl
theorem kc_X6_333 : Cond.constantLong RX6 333 (11450658) ∈ lw_good := lw_goodIn 1320 (by decide +kernel) rfl
theorem kc_X6_287 : Cond.constantLong RX6 287 (1758676) ∈ lw_good := lw_goodIn 1329 (by decide +kernel) rfl
theorem kc_X6_293 : Cond.constantLong RX6 293 (161370) ∈ lw_good := lw_goodIn 1330 (by decide +kernel) rfl
theorem kc_X6_295 : Cond.constantLong RX6 295 (453928) ∈ lw_good := lw_goodIn 1331 (by decide +kernel) rfl
theorem kc_X6_297 : Cond.constantLong RX6 297 (78204737) ∈ lw_good := lw_goodIn 1332 (by decide +kernel) rfl
theorem kc_X6_299 : Cond.constantLong RX6 299 (247664) ∈ lw_good := lw_goodIn 1333 (by decide +kernel) rfl
theorem kc_X6_301 : Cond.constantLong RX6 301 (410684) ∈ lw_good := lw_goodIn 1334 (by decide +kernel) rfl
theorem kc_X6_319 : Cond.constantLong RX6 319 (411) ∈ lw_good := lw_goodIn 1339 (by decide +kernel) rfl
theorem kc_X6_321 : Cond.constantLong RX6 321 (459818) ∈ lw_good := lw_goodIn 1340 (by decide +kernel) rfl
theorem kc_X6_327 : Cond.constantLong RX6 327 (12532058) ∈ lw_good := lw_goodIn 1341 (by decide +kernel) rfl
theorem kc_L_154 : Cond.constantLong RL 154 (4294967295) ∈ lw_good := lw_goodIn 1397 (by decide +kernel) rfl
theorem w_max1 : Cond.static Lib.Math.max.name ∈ lw_good := lw_goodIn 373 (by decide +kernel) rfl
theorem w_max3 : Cond.code Lib.Math.max.name Lib.Math.max.code 2 (some .int) ∈ lw_good := lw_goodIn 374 (by decide +kernel) rfl
theorem w_min1 : Cond.static Lib.Math.min.name ∈ lw_good := lw_goodIn 672 (by decide +kernel) rfl
theorem w_min3 : Cond.code Lib.Math.min.name Lib.Math.min.code 2 (some .int) ∈ lw_good := lw_goodIn 673 (by decide +kernel) rfl
theorem w_math2 : Cond.initialized "java/lang/Math" ∈ lw_good := lw_goodIn 77 (by decide +kernel) rfl
theorem w_cp1 : Cond.native arraycopyName ∈ lw_good := lw_goodIn 507 (by decide +kernel) rfl
theorem w_cp2 : Cond.static arraycopyName ∈ lw_good := lw_goodIn 506 (by decide +kernel) rfl
theorem w_cp3 : Cond.initialized "java/lang/System" ∈ lw_good := lw_goodIn 79 (by decide +kernel) rfl
