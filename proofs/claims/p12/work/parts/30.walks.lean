def mi_10_low : jM := (125381011864938148966349861440094693967859273791190923946929312940959529371133762627396590206862704662810236031473021412940554513716124443, 57, 2, "CoinNode$Tx", some FieldType.int, "low", 0, 0)
def y_10_low : MethodName := ⟨"CoinNode$Tx", "low", "([BI)I"⟩
theorem n_10_low : jn_is prog_12_method_6_code mi_10_low.1 mi_10_low.2.1 := by unfold jn_is; decide +kernel
theorem k_10_low : jmok y_10_low prog_12_method_6_code mi_10_low 2 := ⟨jw_321, jw_11, ⟨by decide, by decide⟩, by decide +kernel⟩
theorem v_10_low_12 (l : Launch)   (H : jH) : JV l mi_10_low jeI 12 [] [] H (B_10_low_12   H) := by
  unfold B_10_low_12
  refine s_3 13 rfl ?_
  exact s_172 rfl rfl
theorem v_10_low (l : Launch) (a0 : Nat) (a1 : Int32) (H : jH) : JV l mi_10_low jeI 0 [(0, .ref a0), (1, .int a1)] [] H (F_10_low a0 a1 H) := by
  unfold F_10_low
  refine s_27 1 rfl rfl ?_
  refine s_155 0 11 12 4 rfl rfl ?_ ?_
  · exact s_jmp (v_10_low_12 l _) trivial
  · refine s_27 5 rfl rfl ?_
    refine s_7 6 rfl ?_
    refine s_96 7 rfl ?_
    refine s_42 8 rfl rfl ?_
    refine s_190 9 101 jm_101 rfl ?_
    refine s_164 0 5 14 12 rfl rfl ?_ ?_
    · refine s_42 15 rfl rfl ?_
      refine s_27 16 rfl rfl ?_
      refine s_51B 17 rfl ?_
      refine s_17 0 255 20 255 jsp_0_255 rfl ?_
      refine s_126 21 rfl ?_
      refine s_42 22 rfl rfl ?_
      refine s_27 23 rfl rfl ?_
      refine s_4 24 rfl ?_
      refine s_96 25 rfl ?_
      refine s_51B 26 rfl ?_
      refine s_17 0 255 29 255 jsp_0_255 rfl ?_
      refine s_126 30 rfl ?_
      refine s_16 8 32 8 jbp_8 rfl ?_
      refine s_120 33 rfl ?_
      refine s_128 34 rfl ?_
      refine s_42 35 rfl rfl ?_
      refine s_27 36 rfl rfl ?_
      refine s_5 37 rfl ?_
      refine s_96 38 rfl ?_
      refine s_51B 39 rfl ?_
      refine s_17 0 255 42 255 jsp_0_255 rfl ?_
      refine s_126 43 rfl ?_
      refine s_16 16 45 16 jbp_16 rfl ?_
      refine s_120 46 rfl ?_
      refine s_128 47 rfl ?_
      refine s_42 48 rfl rfl ?_
      refine s_27 49 rfl rfl ?_
      refine s_6 50 rfl ?_
      refine s_96 51 rfl ?_
      refine s_51B 52 rfl ?_
      refine s_16 24 54 24 jbp_24 rfl ?_
      refine s_120 55 rfl ?_
      refine s_128 56 rfl ?_
      exact s_172 rfl rfl
    · exact s_jmp (v_10_low_12 l _) trivial
theorem m_10_low (l : Launch) (a0 : Nat) (a1 : Int32) (H : jH) : JMet l y_10_low prog_12_method_6_code mi_10_low jeI [.ref a0, .int a1] H (F_10_low a0 a1 H) := jmet_of n_10_low (by decide) ⟨rfl, rfl⟩ (Nat.le_of_ble_eq_true rfl) (v_10_low l a0 a1 H)
def mi_0_init : jM := (8438307367790539736070461291040477027820224783447831163356698628532633575432963846439357624964739065636973195382916915430198766449337296795434, 59, 2, "CoinNode$Block", none, "<init>", 1, 21)
def y_0_init : MethodName := ⟨"CoinNode$Block", "<init>", "([B)V"⟩
theorem n_0_init : jn_is prog_2_method_1_code mi_0_init.1 mi_0_init.2.1 := by unfold jn_is; decide +kernel
theorem k_0_init : jmok y_0_init prog_2_method_1_code mi_0_init 1 := ⟨jw_316, jw_10, ⟨by decide, by decide⟩, by decide +kernel⟩
theorem v_0_init (l : Launch) (a0 : Nat) (a1 : Nat) (H : jH) : JV l mi_0_init jeV 0 [(0, .ref a0), (1, .ref a1)] [] H (F_0_init a0 a1 H) := by
  unfold F_0_init
  refine s_42 1 rfl rfl ?_
  refine s_oinit 0 3 4 3 jw_317 jw_25 jw_26 rfl rfl rfl ?_
  refine s_42 5 rfl rfl ?_
  refine s_16 32 7 32 jbp_32 rfl ?_
  refine s_188_8 9 jw_54 rfl (fun r1 h2 => ?_)
  refine s_181RF 0 9 12 9 f_0_1 rfl ⟨rfl, rfl, rfl⟩ jw_326 rfl rfl (fun h3 => ?_)
  refine s_42 13 rfl rfl ?_
  refine s_3 14 rfl ?_
  refine s_189 0 15 17 15 113 ⟨by decide, rfl⟩ (by decide) jw_318 rfl rfl (fun r4 h5 => ?_)
  refine s_181R 0 17 20 17 f_0_4 rfl rfl jw_333 rfl rfl (fun h6 => ?_)
  refine s_42 21 rfl rfl ?_
  refine s_16 8 23 8 jbp_8 rfl ?_
  refine s_188_10 25 jw_55 rfl (fun r7 h8 => ?_)
  refine s_181RF 0 21 28 21 f_0_8 rfl ⟨rfl, rfl, rfl⟩ jw_341 rfl rfl (fun h9 => ?_)
  refine s_42 29 rfl rfl ?_
  refine s_43 30 rfl rfl ?_
  refine s_181RF 0 25 33 25 f_0_0 rfl ⟨rfl, rfl, rfl⟩ jw_323 rfl rfl (fun h10 => ?_)
  refine s_42 34 rfl rfl ?_
  refine s_43 35 rfl rfl ?_
  refine s_16 69 37 69 jbp_69 rfl ?_
  refine s_184I 0 28 40 28 (m_10_low l _ _ _) rfl k_10_low jw_319 jw_320 rfl rfl rfl rfl rfl (fun x11 h12 => ?_)
  refine s_133 41 rfl ?_
  refine s_20 0 32 44 32 4294967295 rfl jw_322 rfl ?_
  refine s_127 45 rfl ?_
  refine s_181LF 0 34 48 34 f_0_3 rfl ⟨rfl, rfl, rfl⟩ jw_331 rfl rfl (fun h13 => ?_)
  refine s_42 49 rfl rfl ?_
  refine s_43 50 rfl rfl ?_
  refine s_16 73 52 73 jbp_73 rfl ?_
  refine s_184I 0 28 55 28 (m_10_low l _ _ _) rfl k_10_low jw_319 jw_320 rfl rfl rfl rfl rfl (fun x14 h15 => ?_)
  refine s_181IF 0 38 58 38 f_0_2 rfl ⟨rfl, rfl, rfl⟩ jw_329 rfl rfl (fun h16 => ?_)
  exact s_177 rfl rfl
theorem m_0_init (l : Launch) (a0 : Nat) (a1 : Nat) (H : jH) : JMet l y_0_init prog_2_method_1_code mi_0_init jeV [.ref a0, .ref a1] H (F_0_init a0 a1 H) := jmet_of n_0_init (by decide) ⟨rfl, rfl⟩ (Nat.le_of_ble_eq_true rfl) (v_0_init l a0 a1 H)
def mi_3_digest : jM := (230469544001332780896437317657174759675045313592652454875847275330785913362452676007474421349645361444873164794730040796255384252165777179663989668580710700462751707359417330669987330585597485216948933963620167822813967387584080239428241790484767743388959150078504870983755155266462458833944207849500681256101045344346578623311724563196323609936317476145276255601361898598841913719516039737822289250555241273636480265379009951671809890579923078410076947365300468137567629122769624949092411075554194282240867662500994223565650344927456727440990536512326765739472234743618379770879275321809216041866094179938494003392871209757222965862771136332637191007237482168536337378579747453085869475248575545596439446524057488499654602562421248176549002636047810490822344723193031618332235188032227236062532665593697437046190907842192759254989604626305126049244715340172586872342958067374842784615435684494007261796187841306720091166959711695218995453800439638490657117204363085190810585244680660528381380945757916299414916953393444379734133189323479689639194173712738862281771217855621640718181589206108670639744343916859205697084243924008190062855804997965353252051710961764023684289020676182064008106915775046597176710647515820712120371134103936460849984325133093173100634922676303698447736480796598721113376828678845032530253725098048467328081750550348376478462815294674629480630174596805380724169155254807479177002796093078962973468077259606873922473296491957094193530525771352650228495413788060210414271811076184811639444924212119794781280171326514944902044428923531555496633941236198862881466740540153893507624910323890, 670, 15, "CoinNode$Hash", none, "digest", 1, 60)
def y_3_digest : MethodName := ⟨"CoinNode$Hash", "digest", "([B)V"⟩
theorem n_3_digest : jn_is prog_5_method_3_code mi_3_digest.1 mi_3_digest.2.1 := by unfold jn_is; decide +kernel
theorem k_3_digest : jmok y_3_digest prog_5_method_3_code mi_3_digest 1 := ⟨jw_376, jw_2, ⟨by decide, by decide⟩, by decide +kernel⟩
theorem v_3_digest_133 (l : Launch) (k37 : Nat → Nat → Int32 → Int32 → Int32 → jH → Option (Unit × jH)) (hk37 : ∀ a0 a1 a2 a3 a4 H, JV l mi_3_digest jeV 37 [(0, .ref a0), (1, .ref a1), (2, .int a2), (3, .int a3), (4, .int a4)] [] H (k37 a0 a1 a2 a3 a4 H)) (a0 : Nat) (a1 : Nat) (a2 : Int32) (a3 : Int32) (a4 : Int32) (s0 : Nat) (s1 : Int32) (s2 : Int32) (H : jH) : JV l mi_3_digest jeV 133 [(0, .ref a0), (1, .ref a1), (2, .int a2), (3, .int a3), (4, .int a4)] [.int s2, .int s1, .ref s0] H (B_3_digest_133 k37 a0 a1 a2 a3 a4 s0 s1 s2 H) := by
  unfold B_3_digest_133
  refine s_79 134 rfl (fun h1 => ?_)
  refine s_132L 4 1 137 1 ji_1 rfl rfl rfl (fun x2 => ?_)
  refine s_167 255 156 37 rfl rfl ?_
  exact s_jmp (hk37 _ _ _ _ _ _) ⟨rfl, rfl, rfl, rfl, rfl, trivial⟩
theorem v_3_digest_357 (l : Launch) (k29 : Nat → Nat → Int32 → Int32 → jH → Option (Unit × jH)) (hk29 : ∀ a0 a1 a2 a3 H, JV l mi_3_digest jeV 29 [(0, .ref a0), (1, .ref a1), (2, .int a2), (3, .int a3)] [] H (k29 a0 a1 a2 a3 H)) (k357 : Nat → Nat → Int32 → Int32 → Int32 → Int32 → Int32 → Int32 → Int32 → Int32 → Int32 → Int32 → Int32 → jH → Option (Unit × jH)) (hk357 : ∀ a0 a1 a2 a3 a4 a5 a6 a7 a8 a9 a10 a11 a12 H, JV l mi_3_digest jeV 357 [(0, .ref a0), (1, .ref a1), (2, .int a2), (3, .int a3), (4, .int a4), (5, .int a5), (6, .int a6), (7, .int a7), (8, .int a8), (9, .int a9), (10, .int a10), (11, .int a11), (12, .int a12)] [] H (k357 a0 a1 a2 a3 a4 a5 a6 a7 a8 a9 a10 a11 a12 H)) (a0 : Nat) (a1 : Nat) (a2 : Int32) (a3 : Int32) (a4 : Int32) (a5 : Int32) (a6 : Int32) (a7 : Int32) (a8 : Int32) (a9 : Int32) (a10 : Int32) (a11 : Int32) (a12 : Int32) (H : jH) : JV l mi_3_digest jeV 357 [(0, .ref a0), (1, .ref a1), (2, .int a2), (3, .int a3), (4, .int a4), (5, .int a5), (6, .int a6), (7, .int a7), (8, .int a8), (9, .int a9), (10, .int a10), (11, .int a11), (12, .int a12)] [] H (B_3_digest_357 k29 k357 a0 a1 a2 a3 a4 a5 a6 a7 a8 a9 a10 a11 a12 H) := by
  unfold B_3_digest_357
  refine s_21 12 359 rfl rfl ?_
  refine s_16 64 361 64 jbp_64 rfl ?_
  refine s_162 0 170 531 364 rfl rfl ?_ ?_
  · refine s_42 532 rfl rfl ?_
    refine s_180R 0 15 535 15 f_3_2 jw_37 rfl rfl ?_
    refine s_3 536 rfl ?_
    refine s_92 537 rfl rfl rfl ?_
    refine s_46 538 rfl ?_
    refine s_21 4 540 rfl rfl ?_
    refine s_96 541 rfl ?_
    refine s_79 542 rfl (fun h3 => ?_)
    refine s_42 543 rfl rfl ?_
    refine s_180R 0 15 546 15 f_3_2 jw_37 rfl rfl ?_
    refine s_4 547 rfl ?_
    refine s_92 548 rfl rfl rfl ?_
    refine s_46 549 rfl ?_
    refine s_21 5 551 rfl rfl ?_
    refine s_96 552 rfl ?_
    refine s_79 553 rfl (fun h4 => ?_)
    refine s_42 554 rfl rfl ?_
    refine s_180R 0 15 557 15 f_3_2 jw_37 rfl rfl ?_
    refine s_5 558 rfl ?_
    refine s_92 559 rfl rfl rfl ?_
    refine s_46 560 rfl ?_
    refine s_21 6 562 rfl rfl ?_
    refine s_96 563 rfl ?_
    refine s_79 564 rfl (fun h5 => ?_)
    refine s_42 565 rfl rfl ?_
    refine s_180R 0 15 568 15 f_3_2 jw_37 rfl rfl ?_
    refine s_6 569 rfl ?_
    refine s_92 570 rfl rfl rfl ?_
    refine s_46 571 rfl ?_
    refine s_21 7 573 rfl rfl ?_
    refine s_96 574 rfl ?_
    refine s_79 575 rfl (fun h6 => ?_)
    refine s_42 576 rfl rfl ?_
    refine s_180R 0 15 579 15 f_3_2 jw_37 rfl rfl ?_
    refine s_7 580 rfl ?_
    refine s_92 581 rfl rfl rfl ?_
    refine s_46 582 rfl ?_
    refine s_21 8 584 rfl rfl ?_
    refine s_96 585 rfl ?_
    refine s_79 586 rfl (fun h7 => ?_)
    refine s_42 587 rfl rfl ?_
    refine s_180R 0 15 590 15 f_3_2 jw_37 rfl rfl ?_
    refine s_8 591 rfl ?_
    refine s_92 592 rfl rfl rfl ?_
    refine s_46 593 rfl ?_
    refine s_21 9 595 rfl rfl ?_
    refine s_96 596 rfl ?_
    refine s_79 597 rfl (fun h8 => ?_)
    refine s_42 598 rfl rfl ?_
    refine s_180R 0 15 601 15 f_3_2 jw_37 rfl rfl ?_
    refine s_16 6 603 6 jbp_6 rfl ?_
    refine s_92 604 rfl rfl rfl ?_
    refine s_46 605 rfl ?_
    refine s_21 10 607 rfl rfl ?_
    refine s_96 608 rfl ?_
    refine s_79 609 rfl (fun h9 => ?_)
    refine s_42 610 rfl rfl ?_
    refine s_180R 0 15 613 15 f_3_2 jw_37 rfl rfl ?_
    refine s_16 7 615 7 jbp_7 rfl ?_
    refine s_92 616 rfl rfl rfl ?_
    refine s_46 617 rfl ?_
    refine s_21 11 619 rfl rfl ?_
    refine s_96 620 rfl ?_
    refine s_79 621 rfl (fun h10 => ?_)
    refine s_132L 3 1 624 1 ji_1 rfl rfl rfl (fun x11 => ?_)
    refine s_167 253 173 29 rfl rfl ?_
    exact s_jmp (hk29 _ _ _ _ _) ⟨rfl, rfl, rfl, rfl, trivial⟩
  · refine s_21 11 366 rfl rfl ?_
    refine s_21 8 368 rfl rfl ?_
    refine s_16 6 370 6 jbp_6 rfl ?_
    refine s_124 371 rfl ?_
    refine s_21 8 373 rfl rfl ?_
    refine s_16 26 375 26 jbp_26 rfl ?_
    refine s_120 376 rfl ?_
    refine s_128 377 rfl ?_
    refine s_21 8 379 rfl rfl ?_
    refine s_16 11 381 11 jbp_11 rfl ?_
    refine s_124 382 rfl ?_
    refine s_21 8 384 rfl rfl ?_
    refine s_16 21 386 21 jbp_21 rfl ?_
    refine s_120 387 rfl ?_
    refine s_128 388 rfl ?_
    refine s_130 389 rfl ?_
    refine s_21 8 391 rfl rfl ?_
    refine s_16 25 393 25 jbp_25 rfl ?_
    refine s_124 394 rfl ?_
    refine s_21 8 396 rfl rfl ?_
    refine s_16 7 398 7 jbp_7 rfl ?_
    refine s_120 399 rfl ?_
    refine s_128 400 rfl ?_
    refine s_130 401 rfl ?_
    refine s_96 402 rfl ?_
    refine s_21 8 404 rfl rfl ?_
    refine s_21 9 406 rfl rfl ?_
    refine s_126 407 rfl ?_
    refine s_21 8 409 rfl rfl ?_
    refine s_2 410 rfl ?_
    refine s_130 411 rfl ?_
    refine s_21 10 413 rfl rfl ?_
    refine s_126 414 rfl ?_
    refine s_130 415 rfl ?_
    refine s_96 416 rfl ?_
    refine s_178 0 41 419 41 2 "CoinNode$Hash" "ROUNDS" jst_2 ⟨by decide, by decide⟩ jw_379 rfl rfl ?_
    refine s_21 12 421 rfl rfl ?_
    refine s_46 422 rfl ?_
    refine s_96 423 rfl ?_
    refine s_42 424 rfl rfl ?_
    refine s_180R 0 19 427 19 f_3_3 jw_38 rfl rfl ?_
    refine s_21 12 429 rfl rfl ?_
    refine s_46 430 rfl ?_
    refine s_96 431 rfl ?_
    refine s_54L 13 433 rfl rfl (fun x12 => ?_)
    refine s_21 4 435 rfl rfl ?_
    refine s_5 436 rfl ?_
    refine s_124 437 rfl ?_
    refine s_21 4 439 rfl rfl ?_
    refine s_16 30 441 30 jbp_30 rfl ?_
    refine s_120 442 rfl ?_
    refine s_128 443 rfl ?_
    refine s_21 4 445 rfl rfl ?_
    refine s_16 13 447 13 jbp_13 rfl ?_
    refine s_124 448 rfl ?_
    refine s_21 4 450 rfl rfl ?_
    refine s_16 19 452 19 jbp_19 rfl ?_
    refine s_120 453 rfl ?_
    refine s_128 454 rfl ?_
    refine s_130 455 rfl ?_
    refine s_21 4 457 rfl rfl ?_
    refine s_16 22 459 22 jbp_22 rfl ?_
    refine s_124 460 rfl ?_
    refine s_21 4 462 rfl rfl ?_
    refine s_16 10 464 10 jbp_10 rfl ?_
    refine s_120 465 rfl ?_
    refine s_128 466 rfl ?_
    refine s_130 467 rfl ?_
    refine s_21 4 469 rfl rfl ?_
    refine s_21 5 471 rfl rfl ?_
    refine s_126 472 rfl ?_
    refine s_21 4 474 rfl rfl ?_
    refine s_21 6 476 rfl rfl ?_
    refine s_126 477 rfl ?_
    refine s_130 478 rfl ?_
    refine s_21 5 480 rfl rfl ?_
    refine s_21 6 482 rfl rfl ?_
    refine s_126 483 rfl ?_
    refine s_130 484 rfl ?_
    refine s_96 485 rfl ?_
    refine s_54L 14 487 rfl rfl (fun x13 => ?_)
    refine s_21 10 489 rfl rfl ?_
    refine s_54 11 491 rfl rfl ?_
    refine s_21 9 493 rfl rfl ?_
    refine s_54 10 495 rfl rfl ?_
    refine s_21 8 497 rfl rfl ?_
    refine s_54 9 499 rfl rfl ?_
    refine s_21 7 501 rfl rfl ?_
    refine s_21 13 503 rfl rfl ?_
    refine s_96 504 rfl ?_
    refine s_54L 8 506 rfl rfl (fun x14 => ?_)
    refine s_21 6 508 rfl rfl ?_
    refine s_54 7 510 rfl rfl ?_
    refine s_21 5 512 rfl rfl ?_
    refine s_54 6 514 rfl rfl ?_
    refine s_21 4 516 rfl rfl ?_
    refine s_54 5 518 rfl rfl ?_
    refine s_21 13 520 rfl rfl ?_
    refine s_21 14 522 rfl rfl ?_
    refine s_96 523 rfl ?_
    refine s_54L 4 525 rfl rfl (fun x15 => ?_)
    refine s_132L 12 1 528 1 ji_1 rfl rfl rfl (fun x16 => ?_)
    refine s_167 255 85 357 rfl rfl ?_
    exact s_jmp (hk357 _ _ _ _ _ _ _ _ _ _ _ _ _ _) ⟨rfl, rfl, rfl, rfl, rfl, rfl, rfl, rfl, rfl, rfl, rfl, rfl, rfl, trivial⟩
theorem w_3_digest_357 (l : Launch) (k29 : Nat → Nat → Int32 → Int32 → jH → Option (Unit × jH)) (hk29 : ∀ a0 a1 a2 a3 H, JV l mi_3_digest jeV 29 [(0, .ref a0), (1, .ref a1), (2, .int a2), (3, .int a3)] [] H (k29 a0 a1 a2 a3 H)) (n : Nat) : ∀ a0 a1 a2 a3 a4 a5 a6 a7 a8 a9 a10 a11 a12 H, JV l mi_3_digest jeV 357 [(0, .ref a0), (1, .ref a1), (2, .int a2), (3, .int a3), (4, .int a4), (5, .int a5), (6, .int a6), (7, .int a7), (8, .int a8), (9, .int a9), (10, .int a10), (11, .int a11), (12, .int a12)] [] H (F_3_digest_357 k29 n a0 a1 a2 a3 a4 a5 a6 a7 a8 a9 a10 a11 a12 H) := by
  induction n with
  | zero => intro _ _ _ _ _ _ _ _ _ _ _ _ _ _; exact s_none
  | succ n ih => intro a0 a1 a2 a3 a4 a5 a6 a7 a8 a9 a10 a11 a12 H; exact v_3_digest_357 l k29 hk29 (F_3_digest_357 k29 n) ih a0 a1 a2 a3 a4 a5 a6 a7 a8 a9 a10 a11 a12 H
theorem v_3_digest_165 (l : Launch) (k29 : Nat → Nat → Int32 → Int32 → jH → Option (Unit × jH)) (hk29 : ∀ a0 a1 a2 a3 H, JV l mi_3_digest jeV 29 [(0, .ref a0), (1, .ref a1), (2, .int a2), (3, .int a3)] [] H (k29 a0 a1 a2 a3 H)) (k165 : Nat → Nat → Int32 → Int32 → Int32 → jH → Option (Unit × jH)) (hk165 : ∀ a0 a1 a2 a3 a4 H, JV l mi_3_digest jeV 165 [(0, .ref a0), (1, .ref a1), (2, .int a2), (3, .int a3), (4, .int a4)] [] H (k165 a0 a1 a2 a3 a4 H)) (a0 : Nat) (a1 : Nat) (a2 : Int32) (a3 : Int32) (a4 : Int32) (H : jH) : JV l mi_3_digest jeV 165 [(0, .ref a0), (1, .ref a1), (2, .int a2), (3, .int a3), (4, .int a4)] [] H (B_3_digest_165 k29 k165 a0 a1 a2 a3 a4 H) := by
  unfold B_3_digest_165
  refine s_21 4 167 rfl rfl ?_
  refine s_16 64 169 64 jbp_64 rfl ?_
  refine s_162 0 119 288 172 rfl rfl ?_ ?_
  · refine s_42 289 rfl rfl ?_
    refine s_180R 0 15 292 15 f_3_2 jw_37 rfl rfl ?_
    refine s_3 293 rfl ?_
    refine s_46 294 rfl ?_
    refine s_54L 4 296 rfl rfl (fun x17 => ?_)
    refine s_42 297 rfl rfl ?_
    refine s_180R 0 15 300 15 f_3_2 jw_37 rfl rfl ?_
    refine s_4 301 rfl ?_
    refine s_46 302 rfl ?_
    refine s_54L 5 304 rfl rfl (fun x18 => ?_)
    refine s_42 305 rfl rfl ?_
    refine s_180R 0 15 308 15 f_3_2 jw_37 rfl rfl ?_
    refine s_5 309 rfl ?_
    refine s_46 310 rfl ?_
    refine s_54L 6 312 rfl rfl (fun x19 => ?_)
    refine s_42 313 rfl rfl ?_
    refine s_180R 0 15 316 15 f_3_2 jw_37 rfl rfl ?_
    refine s_6 317 rfl ?_
    refine s_46 318 rfl ?_
    refine s_54L 7 320 rfl rfl (fun x20 => ?_)
    refine s_42 321 rfl rfl ?_
    refine s_180R 0 15 324 15 f_3_2 jw_37 rfl rfl ?_
    refine s_7 325 rfl ?_
    refine s_46 326 rfl ?_
    refine s_54L 8 328 rfl rfl (fun x21 => ?_)
    refine s_42 329 rfl rfl ?_
    refine s_180R 0 15 332 15 f_3_2 jw_37 rfl rfl ?_
    refine s_8 333 rfl ?_
    refine s_46 334 rfl ?_
    refine s_54L 9 336 rfl rfl (fun x22 => ?_)
    refine s_42 337 rfl rfl ?_
    refine s_180R 0 15 340 15 f_3_2 jw_37 rfl rfl ?_
    refine s_16 6 342 6 jbp_6 rfl ?_
    refine s_46 343 rfl ?_
    refine s_54L 10 345 rfl rfl (fun x23 => ?_)
    refine s_42 346 rfl rfl ?_
    refine s_180R 0 15 349 15 f_3_2 jw_37 rfl rfl ?_
    refine s_16 7 351 7 jbp_7 rfl ?_
    refine s_46 352 rfl ?_
    refine s_54L 11 354 rfl rfl (fun x24 => ?_)
    refine s_3 355 rfl ?_
    refine s_54 12 357 rfl rfl ?_
    exact s_jmp (w_3_digest_357 l k29 hk29 jfuel _ _ _ _ _ _ _ _ _ _ _ _ _ _) ⟨rfl, rfl, rfl, rfl, rfl, rfl, rfl, rfl, rfl, rfl, rfl, rfl, rfl, trivial⟩
  · refine s_42 173 rfl rfl ?_
    refine s_180R 0 19 176 19 f_3_3 jw_38 rfl rfl ?_
    refine s_21 4 178 rfl rfl ?_
    refine s_16 15 180 15 jbp_15 rfl ?_
    refine s_100 181 rfl ?_
    refine s_46 182 rfl ?_
    refine s_54L 5 184 rfl rfl (fun x25 => ?_)
    refine s_42 185 rfl rfl ?_
    refine s_180R 0 19 188 19 f_3_3 jw_38 rfl rfl ?_
    refine s_21 4 190 rfl rfl ?_
    refine s_5 191 rfl ?_
    refine s_100 192 rfl ?_
    refine s_46 193 rfl ?_
    refine s_54L 6 195 rfl rfl (fun x26 => ?_)
    refine s_42 196 rfl rfl ?_
    refine s_180R 0 19 199 19 f_3_3 jw_38 rfl rfl ?_
    refine s_21 4 201 rfl rfl ?_
    refine s_42 202 rfl rfl ?_
    refine s_180R 0 19 205 19 f_3_3 jw_38 rfl rfl ?_
    refine s_21 4 207 rfl rfl ?_
    refine s_16 16 209 16 jbp_16 rfl ?_
    refine s_100 210 rfl ?_
    refine s_46 211 rfl ?_
    refine s_42 212 rfl rfl ?_
    refine s_180R 0 19 215 19 f_3_3 jw_38 rfl rfl ?_
    refine s_21 4 217 rfl rfl ?_
    refine s_16 7 219 7 jbp_7 rfl ?_
    refine s_100 220 rfl ?_
    refine s_46 221 rfl ?_
    refine s_96 222 rfl ?_
    refine s_21 5 224 rfl rfl ?_
    refine s_16 7 226 7 jbp_7 rfl ?_
    refine s_124 227 rfl ?_
    refine s_21 5 229 rfl rfl ?_
    refine s_16 25 231 25 jbp_25 rfl ?_
    refine s_120 232 rfl ?_
    refine s_128 233 rfl ?_
    refine s_21 5 235 rfl rfl ?_
    refine s_16 18 237 18 jbp_18 rfl ?_
    refine s_124 238 rfl ?_
    refine s_21 5 240 rfl rfl ?_
    refine s_16 14 242 14 jbp_14 rfl ?_
    refine s_120 243 rfl ?_
    refine s_128 244 rfl ?_
    refine s_130 245 rfl ?_
    refine s_21 5 247 rfl rfl ?_
    refine s_6 248 rfl ?_
    refine s_124 249 rfl ?_
    refine s_130 250 rfl ?_
    refine s_96 251 rfl ?_
    refine s_21 6 253 rfl rfl ?_
    refine s_16 17 255 17 jbp_17 rfl ?_
    refine s_124 256 rfl ?_
    refine s_21 6 258 rfl rfl ?_
    refine s_16 15 260 15 jbp_15 rfl ?_
    refine s_120 261 rfl ?_
    refine s_128 262 rfl ?_
    refine s_21 6 264 rfl rfl ?_
    refine s_16 19 266 19 jbp_19 rfl ?_
    refine s_124 267 rfl ?_
    refine s_21 6 269 rfl rfl ?_
    refine s_16 13 271 13 jbp_13 rfl ?_
    refine s_120 272 rfl ?_
    refine s_128 273 rfl ?_
    refine s_130 274 rfl ?_
    refine s_21 6 276 rfl rfl ?_
    refine s_16 10 278 10 jbp_10 rfl ?_
    refine s_124 279 rfl ?_
    refine s_130 280 rfl ?_
    refine s_96 281 rfl ?_
    refine s_79 282 rfl (fun h27 => ?_)
    refine s_132L 4 1 285 1 ji_1 rfl rfl rfl (fun x28 => ?_)
    refine s_167 255 136 165 rfl rfl ?_
    exact s_jmp (hk165 _ _ _ _ _ _) ⟨rfl, rfl, rfl, rfl, rfl, trivial⟩
theorem w_3_digest_165 (l : Launch) (k29 : Nat → Nat → Int32 → Int32 → jH → Option (Unit × jH)) (hk29 : ∀ a0 a1 a2 a3 H, JV l mi_3_digest jeV 29 [(0, .ref a0), (1, .ref a1), (2, .int a2), (3, .int a3)] [] H (k29 a0 a1 a2 a3 H)) (n : Nat) : ∀ a0 a1 a2 a3 a4 H, JV l mi_3_digest jeV 165 [(0, .ref a0), (1, .ref a1), (2, .int a2), (3, .int a3), (4, .int a4)] [] H (F_3_digest_165 k29 n a0 a1 a2 a3 a4 H) := by
  induction n with
  | zero => intro _ _ _ _ _ _; exact s_none
  | succ n ih => intro a0 a1 a2 a3 a4 H; exact v_3_digest_165 l k29 hk29 (F_3_digest_165 k29 n) ih a0 a1 a2 a3 a4 H
theorem v_3_digest_161 (l : Launch) (k29 : Nat → Nat → Int32 → Int32 → jH → Option (Unit × jH)) (hk29 : ∀ a0 a1 a2 a3 H, JV l mi_3_digest jeV 29 [(0, .ref a0), (1, .ref a1), (2, .int a2), (3, .int a3)] [] H (k29 a0 a1 a2 a3 H)) (a0 : Nat) (a1 : Nat) (a2 : Int32) (a3 : Int32) (H : jH) : JV l mi_3_digest jeV 161 [(0, .ref a0), (1, .ref a1), (2, .int a2), (3, .int a3)] [] H (B_3_digest_161 k29 a0 a1 a2 a3 H) := by
  unfold B_3_digest_161
  refine s_16 16 163 16 jbp_16 rfl ?_
  refine s_54 4 165 rfl rfl ?_
  exact s_jmp (w_3_digest_165 l k29 hk29 jfuel _ _ _ _ _ _) ⟨rfl, rfl, rfl, rfl, rfl, trivial⟩
theorem v_3_digest_37 (l : Launch) (k29 : Nat → Nat → Int32 → Int32 → jH → Option (Unit × jH)) (hk29 : ∀ a0 a1 a2 a3 H, JV l mi_3_digest jeV 29 [(0, .ref a0), (1, .ref a1), (2, .int a2), (3, .int a3)] [] H (k29 a0 a1 a2 a3 H)) (k37 : Nat → Nat → Int32 → Int32 → Int32 → jH → Option (Unit × jH)) (hk37 : ∀ a0 a1 a2 a3 a4 H, JV l mi_3_digest jeV 37 [(0, .ref a0), (1, .ref a1), (2, .int a2), (3, .int a3), (4, .int a4)] [] H (k37 a0 a1 a2 a3 a4 H)) (a0 : Nat) (a1 : Nat) (a2 : Int32) (a3 : Int32) (a4 : Int32) (H : jH) : JV l mi_3_digest jeV 37 [(0, .ref a0), (1, .ref a1), (2, .int a2), (3, .int a3), (4, .int a4)] [] H (B_3_digest_37 k29 k37 a0 a1 a2 a3 a4 H) := by
  unfold B_3_digest_37
  refine s_21 4 39 rfl rfl ?_
  refine s_16 16 41 16 jbp_16 rfl ?_
  refine s_162 0 99 140 44 rfl rfl ?_ ?_
  · refine s_29 141 rfl rfl ?_
    refine s_28 142 rfl rfl ?_
    refine s_4 143 rfl ?_
    refine s_100 144 rfl ?_
    refine s_160 0 17 161 147 rfl rfl ?_ ?_
    · exact s_jmp (v_3_digest_161 l k29 hk29 _ _ _ _ _) ⟨rfl, rfl, rfl, rfl, trivial⟩
    · refine s_42 148 rfl rfl ?_
      refine s_180R 0 19 151 19 f_3_3 jw_38 rfl rfl ?_
      refine s_16 15 153 15 jbp_15 rfl ?_
      refine s_16 8 155 8 jbp_8 rfl ?_
      refine s_42 156 rfl rfl ?_
      refine s_180I 0 28 159 28 f_3_1 jw_36 rfl rfl ?_
      refine s_104 160 rfl ?_
      refine s_79 161 rfl (fun h29 => ?_)
      exact s_jmp (v_3_digest_161 l k29 hk29 _ _ _ _ _) ⟨rfl, rfl, rfl, rfl, trivial⟩
  · refine s_16 64 46 64 jbp_64 rfl ?_
    refine s_29 47 rfl rfl ?_
    refine s_104 48 rfl ?_
    refine s_7 49 rfl ?_
    refine s_21 4 51 rfl rfl ?_
    refine s_104 52 rfl ?_
    refine s_96 53 rfl ?_
    refine s_54L 5 55 rfl rfl (fun x30 => ?_)
    refine s_42 56 rfl rfl ?_
    refine s_180R 0 19 59 19 f_3_3 jw_38 rfl rfl ?_
    refine s_21 4 61 rfl rfl ?_
    refine s_21 5 63 rfl rfl ?_
    refine s_6 64 rfl ?_
    refine s_96 65 rfl ?_
    refine s_17 10 0 68 2560 jsp_10_0 rfl ?_
    refine s_161 0 7 75 71 rfl rfl ?_ ?_
    · refine s_42 76 rfl rfl ?_
      refine s_180R 0 11 79 11 f_3_0 jw_35 rfl rfl ?_
      refine s_21 5 81 rfl rfl ?_
      refine s_51B 82 rfl ?_
      refine s_16 24 84 24 jbp_24 rfl ?_
      refine s_120 85 rfl ?_
      refine s_42 86 rfl rfl ?_
      refine s_180R 0 11 89 11 f_3_0 jw_35 rfl rfl ?_
      refine s_21 5 91 rfl rfl ?_
      refine s_4 92 rfl ?_
      refine s_96 93 rfl ?_
      refine s_51B 94 rfl ?_
      refine s_17 0 255 97 255 jsp_0_255 rfl ?_
      refine s_126 98 rfl ?_
      refine s_16 16 100 16 jbp_16 rfl ?_
      refine s_120 101 rfl ?_
      refine s_128 102 rfl ?_
      refine s_42 103 rfl rfl ?_
      refine s_180R 0 11 106 11 f_3_0 jw_35 rfl rfl ?_
      refine s_21 5 108 rfl rfl ?_
      refine s_5 109 rfl ?_
      refine s_96 110 rfl ?_
      refine s_51B 111 rfl ?_
      refine s_17 0 255 114 255 jsp_0_255 rfl ?_
      refine s_126 115 rfl ?_
      refine s_16 8 117 8 jbp_8 rfl ?_
      refine s_120 118 rfl ?_
      refine s_128 119 rfl ?_
      refine s_42 120 rfl rfl ?_
      refine s_180R 0 11 123 11 f_3_0 jw_35 rfl rfl ?_
      refine s_21 5 125 rfl rfl ?_
      refine s_6 126 rfl ?_
      refine s_96 127 rfl ?_
      refine s_51B 128 rfl ?_
      refine s_17 0 255 131 255 jsp_0_255 rfl ?_
      refine s_126 132 rfl ?_
      refine s_128 133 rfl ?_
      exact s_jmp (v_3_digest_133 l k37 hk37 _ _ _ _ _ _ _ _ _) ⟨rfl, rfl, rfl, rfl, rfl, trivial⟩
    · refine s_3 72 rfl ?_
      refine s_167 0 61 133 rfl rfl ?_
      exact s_jmp (v_3_digest_133 l k37 hk37 _ _ _ _ _ _ _ _ _) ⟨rfl, rfl, rfl, rfl, rfl, trivial⟩
theorem w_3_digest_37 (l : Launch) (k29 : Nat → Nat → Int32 → Int32 → jH → Option (Unit × jH)) (hk29 : ∀ a0 a1 a2 a3 H, JV l mi_3_digest jeV 29 [(0, .ref a0), (1, .ref a1), (2, .int a2), (3, .int a3)] [] H (k29 a0 a1 a2 a3 H)) (n : Nat) : ∀ a0 a1 a2 a3 a4 H, JV l mi_3_digest jeV 37 [(0, .ref a0), (1, .ref a1), (2, .int a2), (3, .int a3), (4, .int a4)] [] H (F_3_digest_37 k29 n a0 a1 a2 a3 a4 H) := by
  induction n with
  | zero => intro _ _ _ _ _ _; exact s_none
  | succ n ih => intro a0 a1 a2 a3 a4 H; exact v_3_digest_37 l k29 hk29 (F_3_digest_37 k29 n) ih a0 a1 a2 a3 a4 H
theorem v_3_digest_669 (l : Launch)   (H : jH) : JV l mi_3_digest jeV 669 [] [] H (B_3_digest_669   H) := by
  unfold B_3_digest_669
  exact s_177 rfl rfl
theorem v_3_digest_629 (l : Launch) (k629 : Nat → Nat → Int32 → jH → Option (Unit × jH)) (hk629 : ∀ a0 a1 a3 H, JV l mi_3_digest jeV 629 [(0, .ref a0), (1, .ref a1), (3, .int a3)] [] H (k629 a0 a1 a3 H)) (a0 : Nat) (a1 : Nat) (a3 : Int32) (H : jH) : JV l mi_3_digest jeV 629 [(0, .ref a0), (1, .ref a1), (3, .int a3)] [] H (B_3_digest_629 k629 a0 a1 a3 H) := by
  unfold B_3_digest_629
  refine s_29 630 rfl rfl ?_
  refine s_16 32 632 32 jbp_32 rfl ?_
  refine s_162 0 37 669 635 rfl rfl ?_ ?_
  · exact s_jmp (v_3_digest_669 l _) trivial
  · refine s_29 636 rfl rfl ?_
    refine s_43 637 rfl rfl ?_
    refine s_190 638 101 jm_101 rfl ?_
    refine s_162 0 31 669 641 rfl rfl ?_ ?_
    · exact s_jmp (v_3_digest_669 l _) trivial
    · refine s_43 642 rfl rfl ?_
      refine s_29 643 rfl rfl ?_
      refine s_42 644 rfl rfl ?_
      refine s_180R 0 15 647 15 f_3_2 jw_37 rfl rfl ?_
      refine s_29 648 rfl rfl ?_
      refine s_7 649 rfl ?_
      refine s_108 650 rfl ?_
      refine s_46 651 rfl ?_
      refine s_16 24 653 24 jbp_24 rfl ?_
      refine s_16 8 655 8 jbp_8 rfl ?_
      refine s_29 656 rfl rfl ?_
      refine s_7 657 rfl ?_
      refine s_112 658 rfl ?_
      refine s_104 659 rfl ?_
      refine s_100 660 rfl ?_
      refine s_124 661 rfl ?_
      refine s_145 662 rfl ?_
      refine s_84B 663 rfl (fun h31 => ?_)
      refine s_132L 3 1 666 1 ji_1 rfl rfl rfl (fun x32 => ?_)
      refine s_167 255 219 629 rfl rfl ?_
      exact s_jmp (hk629 _ _ _ _) ⟨rfl, rfl, rfl, trivial⟩
theorem w_3_digest_629 (l : Launch)  (n : Nat) : ∀ a0 a1 a3 H, JV l mi_3_digest jeV 629 [(0, .ref a0), (1, .ref a1), (3, .int a3)] [] H (F_3_digest_629  n a0 a1 a3 H) := by
  induction n with
  | zero => intro _ _ _ _; exact s_none
  | succ n ih => intro a0 a1 a3 H; exact v_3_digest_629 l (F_3_digest_629  n) ih a0 a1 a3 H
theorem v_3_digest_29 (l : Launch) (k29 : Nat → Nat → Int32 → Int32 → jH → Option (Unit × jH)) (hk29 : ∀ a0 a1 a2 a3 H, JV l mi_3_digest jeV 29 [(0, .ref a0), (1, .ref a1), (2, .int a2), (3, .int a3)] [] H (k29 a0 a1 a2 a3 H)) (a0 : Nat) (a1 : Nat) (a2 : Int32) (a3 : Int32) (H : jH) : JV l mi_3_digest jeV 29 [(0, .ref a0), (1, .ref a1), (2, .int a2), (3, .int a3)] [] H (B_3_digest_29 k29 a0 a1 a2 a3 H) := by
  unfold B_3_digest_29
  refine s_29 30 rfl rfl ?_
  refine s_28 31 rfl rfl ?_
  refine s_162 2 84 627 34 rfl rfl ?_ ?_
  · refine s_3 628 rfl ?_
    refine s_62 629 rfl rfl ?_
    exact s_jmp (w_3_digest_629 l jfuel _ _ _ _) ⟨rfl, rfl, rfl, trivial⟩
  · refine s_3 35 rfl ?_
    refine s_54 4 37 rfl rfl ?_
    exact s_jmp (w_3_digest_37 l k29 hk29 jfuel _ _ _ _ _ _) ⟨rfl, rfl, rfl, rfl, rfl, trivial⟩
theorem w_3_digest_29 (l : Launch)  (n : Nat) : ∀ a0 a1 a2 a3 H, JV l mi_3_digest jeV 29 [(0, .ref a0), (1, .ref a1), (2, .int a2), (3, .int a3)] [] H (F_3_digest_29  n a0 a1 a2 a3 H) := by
  induction n with
  | zero => intro _ _ _ _ _; exact s_none
  | succ n ih => intro a0 a1 a2 a3 H; exact v_3_digest_29 l (F_3_digest_29  n) ih a0 a1 a2 a3 H
theorem v_3_digest (l : Launch) (a0 : Nat) (a1 : Nat) (H : jH) : JV l mi_3_digest jeV 0 [(0, .ref a0), (1, .ref a1)] [] H (F_3_digest a0 a1 H) := by
  unfold F_3_digest
  refine s_178 0 38 3 38 1 "CoinNode$Hash" "START" jst_1 ⟨by decide, by decide⟩ jw_377 rfl rfl ?_
  refine s_3 4 rfl ?_
  refine s_42 5 rfl rfl ?_
  refine s_180R 0 15 8 15 f_3_2 jw_37 rfl rfl ?_
  refine s_3 9 rfl ?_
  refine s_16 8 11 8 jbp_8 rfl ?_
  refine s_acI 0 32 14 32 jw_370 jw_372 jw_371 jw_12 rfl rfl rfl rfl (fun h33 => ?_)
  refine s_42 15 rfl rfl ?_
  refine s_180I 0 28 18 28 f_3_1 jw_36 rfl rfl ?_
  refine s_16 8 20 8 jbp_8 rfl ?_
  refine s_96 21 rfl ?_
  refine s_16 64 23 64 jbp_64 rfl ?_
  refine s_108 24 rfl ?_
  refine s_4 25 rfl ?_
  refine s_96 26 rfl ?_
  refine s_61L 27 rfl rfl (fun x34 => ?_)
  refine s_3 28 rfl ?_
  refine s_62 29 rfl rfl ?_
  exact s_jmp (w_3_digest_29 l jfuel _ _ _ _ _) ⟨rfl, rfl, rfl, rfl, trivial⟩
theorem m_3_digest (l : Launch) (a0 : Nat) (a1 : Nat) (H : jH) : JMet l y_3_digest prog_5_method_3_code mi_3_digest jeV [.ref a0, .ref a1] H (F_3_digest a0 a1 H) := jmet_of n_3_digest (by decide) ⟨rfl, rfl⟩ (Nat.le_of_ble_eq_true rfl) (v_3_digest l a0 a1 H)
def mi_3_take : jM := (52956433974184031323588938690342040806664173237981945840017507552981689069593962473775418510366431996124233797393063461312780136998171352725351485409015537319236646276765617168931276913004686632878890, 83, 5, "CoinNode$Hash", none, "take", 1, 60)
def y_3_take : MethodName := ⟨"CoinNode$Hash", "take", "([BII)V"⟩
theorem n_3_take : jn_is prog_5_method_2_code mi_3_take.1 mi_3_take.2.1 := by unfold jn_is; decide +kernel
theorem k_3_take : jmok y_3_take prog_5_method_2_code mi_3_take 3 := ⟨jw_369, jw_2, ⟨by decide, by decide⟩, by decide +kernel⟩
theorem v_3_take_31 (l : Launch)   (H : jH) : JV l mi_3_take jeV 31 [] [] H (B_3_take_31   H) := by
  unfold B_3_take_31
  exact s_177 rfl rfl
theorem v_3_take_46 (l : Launch) (k46 : Nat → Int32 → Int32 → jH → Option (Unit × jH)) (hk46 : ∀ a0 a3 a4 H, JV l mi_3_take jeV 46 [(0, .ref a0), (3, .int a3), (4, .int a4)] [] H (k46 a0 a3 a4 H)) (a0 : Nat) (a3 : Int32) (a4 : Int32) (H : jH) : JV l mi_3_take jeV 46 [(0, .ref a0), (3, .int a3), (4, .int a4)] [] H (B_3_take_46 k46 a0 a3 a4 H) := by
  unfold B_3_take_46
  refine s_21 4 48 rfl rfl ?_
  refine s_29 49 rfl rfl ?_
  refine s_16 72 51 72 jbp_72 rfl ?_
  refine s_96 52 rfl ?_
  refine s_162 0 17 69 55 rfl rfl ?_ ?_
  · refine s_42 70 rfl rfl ?_
    refine s_180R 0 11 73 11 f_3_0 jw_35 rfl rfl ?_
    refine s_29 74 rfl rfl ?_
    refine s_16 128 76 (-128) jbp_128 rfl ?_
    refine s_84B 77 rfl (fun h1 => ?_)
    refine s_42 78 rfl rfl ?_
    refine s_29 79 rfl rfl ?_
    refine s_181I 0 28 82 28 f_3_1 rfl rfl jw_36 rfl rfl (fun h2 => ?_)
    exact s_177 rfl rfl
  · refine s_42 56 rfl rfl ?_
    refine s_180R 0 11 59 11 f_3_0 jw_35 rfl rfl ?_
    refine s_21 4 61 rfl rfl ?_
    refine s_3 62 rfl ?_
    refine s_84B 63 rfl (fun h3 => ?_)
    refine s_132L 4 1 66 1 ji_1 rfl rfl rfl (fun x4 => ?_)
    refine s_167 255 236 46 rfl rfl ?_
    exact s_jmp (hk46 _ _ _ _) ⟨rfl, rfl, rfl, trivial⟩
theorem w_3_take_46 (l : Launch)  (n : Nat) : ∀ a0 a3 a4 H, JV l mi_3_take jeV 46 [(0, .ref a0), (3, .int a3), (4, .int a4)] [] H (F_3_take_46  n a0 a3 a4 H) := by
  induction n with
  | zero => intro _ _ _ _; exact s_none
  | succ n ih => intro a0 a3 a4 H; exact v_3_take_46 l (F_3_take_46  n) ih a0 a3 a4 H
theorem v_3_take (l : Launch) (a0 : Nat) (a1 : Nat) (a2 : Int32) (a3 : Int32) (H : jH) : JV l mi_3_take jeV 0 [(0, .ref a0), (1, .ref a1), (2, .int a2), (3, .int a3)] [] H (F_3_take a0 a1 a2 a3 H) := by
  unfold F_3_take
  refine s_42 1 rfl rfl ?_
  refine s_3 2 rfl ?_
  refine s_181I 0 28 5 28 f_3_1 rfl rfl jw_36 rfl rfl (fun h5 => ?_)
  refine s_28 6 rfl rfl ?_
  refine s_155 0 25 31 9 rfl rfl ?_ ?_
  · exact s_jmp (v_3_take_31 l _) trivial
  · refine s_29 10 rfl rfl ?_
    refine s_155 0 21 31 13 rfl rfl ?_ ?_
    · exact s_jmp (v_3_take_31 l _) trivial
    · refine s_29 14 rfl rfl ?_
      refine s_16 72 16 72 jbp_72 rfl ?_
      refine s_96 17 rfl ?_
      refine s_17 10 0 20 2560 jsp_10_0 rfl ?_
      refine s_163 0 11 31 23 rfl rfl ?_ ?_
      · exact s_jmp (v_3_take_31 l _) trivial
      · refine s_28 24 rfl rfl ?_
        refine s_29 25 rfl rfl ?_
        refine s_96 26 rfl ?_
        refine s_43 27 rfl rfl ?_
        refine s_190 28 101 jm_101 rfl ?_
        refine s_164 0 4 32 31 rfl rfl ?_ ?_
        · refine s_43 33 rfl rfl ?_
          refine s_28 34 rfl rfl ?_
          refine s_42 35 rfl rfl ?_
          refine s_180R 0 11 38 11 f_3_0 jw_35 rfl rfl ?_
          refine s_3 39 rfl ?_
          refine s_29 40 rfl rfl ?_
          refine s_acB 0 32 43 32 jw_370 jw_372 jw_371 jw_12 rfl rfl rfl rfl (fun h6 => ?_)
          refine s_29 44 rfl rfl ?_
          refine s_54 4 46 rfl rfl ?_
          exact s_jmp (w_3_take_46 l jfuel _ _ _ _) ⟨rfl, rfl, rfl, trivial⟩
        · exact s_jmp (v_3_take_31 l _) trivial
theorem m_3_take (l : Launch) (a0 : Nat) (a1 : Nat) (a2 : Int32) (a3 : Int32) (H : jH) : JMet l y_3_take prog_5_method_2_code mi_3_take jeV [.ref a0, .ref a1, .int a2, .int a3] H (F_3_take a0 a1 a2 a3 H) := jmet_of n_3_take (by decide) ⟨rfl, rfl⟩ (Nat.le_of_ble_eq_true rfl) (v_3_take l a0 a1 a2 a3 H)
def mi_3_name : jM := (20523244447845454186898860384123033998797479305383982044086628393925592854833962, 33, 5, "CoinNode$Hash", none, "name", 2, 94)
def y_3_name : MethodName := ⟨"CoinNode$Hash", "name", "([BII[B)V"⟩
theorem n_3_name : jn_is prog_5_method_5_code mi_3_name.1 mi_3_name.2.1 := by unfold jn_is; decide +kernel
theorem k_3_name : jmok y_3_name prog_5_method_5_code mi_3_name 4 := ⟨jw_365, jw_2, ⟨by decide, by decide⟩, by decide +kernel⟩
theorem v_3_name (l : Launch) (a0 : Nat) (a1 : Nat) (a2 : Int32) (a3 : Int32) (a4 : Nat) (H : jH) : JV l mi_3_name jeV 0 [(0, .ref a0), (1, .ref a1), (2, .int a2), (3, .int a3), (4, .ref a4)] [] H (F_3_name a0 a1 a2 a3 a4 H) := by
  unfold F_3_name
  refine s_42 1 rfl rfl ?_
  refine s_43 2 rfl rfl ?_
  refine s_28 3 rfl rfl ?_
  refine s_29 4 rfl rfl ?_
  refine s_182V 0 58 7 58 (m_3_take l _ _ _ _ _) rfl k_3_take jc_3 jw_366 jw_367 jw_368 rfl rfl rfl rfl rfl (fun x1 h2 => ?_)
  refine s_42 8 rfl rfl ?_
  refine s_42 9 rfl rfl ?_
  refine s_180R 0 25 12 25 f_3_5 jw_40 rfl rfl ?_
  refine s_182V 0 62 15 62 (m_3_digest l _ _ _) rfl k_3_digest jc_3 jw_373 jw_374 jw_375 rfl rfl rfl rfl rfl (fun x3 h4 => ?_)
  refine s_42 16 rfl rfl ?_
  refine s_42 17 rfl rfl ?_
  refine s_180R 0 25 20 25 f_3_5 jw_40 rfl rfl ?_
  refine s_3 21 rfl ?_
  refine s_16 32 23 32 jbp_32 rfl ?_
  refine s_182V 0 58 26 58 (m_3_take l _ _ _ _ _) rfl k_3_take jc_3 jw_366 jw_367 jw_368 rfl rfl rfl rfl rfl (fun x5 h6 => ?_)
  refine s_42 27 rfl rfl ?_
  refine s_25 4 29 rfl rfl ?_
  refine s_182V 0 62 32 62 (m_3_digest l _ _ _) rfl k_3_digest jc_3 jw_373 jw_374 jw_375 rfl rfl rfl rfl rfl (fun x7 h8 => ?_)
  exact s_177 rfl rfl
theorem m_3_name (l : Launch) (a0 : Nat) (a1 : Nat) (a2 : Int32) (a3 : Int32) (a4 : Nat) (H : jH) : JMet l y_3_name prog_5_method_5_code mi_3_name jeV [.ref a0, .ref a1, .int a2, .int a3, .ref a4] H (F_3_name a0 a1 a2 a3 a4 H) := jmet_of n_3_name (by decide) ⟨rfl, rfl⟩ (Nat.le_of_ble_eq_true rfl) (v_3_name l a0 a1 a2 a3 a4 H)
def mi_1_init : jM := (11520579853134033421085962381797585120798809395827252348402783173096900049034680843585261475423715905151261211757642690790482415346424094618966719742578515469331957069530131487652554703342488398202364563698064020762071392759050177111722616402248404836090139396299509453935486611213349980023018011886301786323864271186032670498087024830308910594512877245143699591568234723825026821480693775581653434286974143353131224137915180824135082348197766097272284079974688751078829483150722809507108083797565589878817867230205082509709565540138, 221, 6, "CoinNode$Chain", none, "<init>", 3, 118)
def y_1_init : MethodName := ⟨"CoinNode$Chain", "<init>", "(LCoinNode$Hash;LCoinNode$Coins;LCoinNode$Scripts;)V"⟩
theorem n_1_init : jn_is prog_3_method_1_code mi_1_init.1 mi_1_init.2.1 := by unfold jn_is; decide +kernel
theorem k_1_init : jmok y_1_init prog_3_method_1_code mi_1_init 3 := ⟨jw_307, jw_9, ⟨by decide, by decide⟩, by decide +kernel⟩
theorem v_1_init_122 (l : Launch) (k122 : Nat → Nat → Nat → Int32 → jH → Option (Unit × jH)) (hk122 : ∀ a0 a1 a4 a5 H, JV l mi_1_init jeV 122 [(0, .ref a0), (1, .ref a1), (4, .ref a4), (5, .int a5)] [] H (k122 a0 a1 a4 a5 H)) (a0 : Nat) (a1 : Nat) (a4 : Nat) (a5 : Int32) (H : jH) : JV l mi_1_init jeV 122 [(0, .ref a0), (1, .ref a1), (4, .ref a4), (5, .int a5)] [] H (B_1_init_122 k122 a0 a1 a4 a5 H) := by
  unfold B_1_init_122
  refine s_21 5 124 rfl rfl ?_
  refine s_7 125 rfl ?_
  refine s_162 0 43 168 128 rfl rfl ?_ ?_
  · refine s_187 0 11 171 11 jc_0 jw_309 jw_313 jw_10 rfl rfl (fun r1 h2 => ?_)
    refine s_89 172 rfl rfl ?_
    refine s_25 4 174 rfl rfl ?_
    refine s_183V 0 61 177 61 (m_0_init l _ _ _) rfl k_0_init rfl rfl jw_314 jw_315 rfl rfl rfl rfl rfl (fun x3 h4 => ?_)
    refine s_58 5 179 rfl rfl ?_
    refine s_43 180 rfl rfl ?_
    refine s_25 4 182 rfl rfl ?_
    refine s_4 183 rfl ?_
    refine s_16 80 185 80 jbp_80 rfl ?_
    refine s_25 5 187 rfl rfl ?_
    refine s_180R 0 64 190 64 f_0_1 jw_327 rfl rfl ?_
    refine s_182V 0 65 193 65 (m_3_name l _ _ _ _ _ _) rfl k_3_name jc_3 jw_362 jw_363 jw_364 rfl rfl rfl rfl rfl (fun x5 h6 => ?_)
    refine s_42 194 rfl rfl ?_
    refine s_180R 0 13 197 13 f_1_3 jw_384 rfl rfl ?_
    refine s_3 198 rfl ?_
    refine s_25 5 200 rfl rfl ?_
    refine s_83 201 114 0 js_114 jc_0 rfl (fun h7 => ?_)
    refine s_42 202 rfl rfl ?_
    refine s_180R 0 17 205 17 f_1_7 jw_391 rfl rfl ?_
    refine s_3 206 rfl ?_
    refine s_25 5 208 rfl rfl ?_
    refine s_83 209 114 0 js_114 jc_0 rfl (fun h8 => ?_)
    refine s_42 210 rfl rfl ?_
    refine s_4 211 rfl ?_
    refine s_181I 0 70 214 70 f_1_4 rfl rfl jw_385 rfl rfl (fun h9 => ?_)
    refine s_42 215 rfl rfl ?_
    refine s_25 5 217 rfl rfl ?_
    refine s_181R 0 74 220 74 f_1_6 rfl rfl jw_389 rfl rfl (fun h10 => ?_)
    exact s_177 rfl rfl
  · refine s_25 4 130 rfl rfl ?_
    refine s_16 69 132 69 jbp_69 rfl ?_
    refine s_21 5 134 rfl rfl ?_
    refine s_96 135 rfl ?_
    refine s_18 59 137 1000000 jw_311 rfl ?_
    refine s_16 8 139 8 jbp_8 rfl ?_
    refine s_21 5 141 rfl rfl ?_
    refine s_104 142 rfl ?_
    refine s_124 143 rfl ?_
    refine s_145 144 rfl ?_
    refine s_84B 145 rfl (fun h11 => ?_)
    refine s_25 4 147 rfl rfl ?_
    refine s_16 73 149 73 jbp_73 rfl ?_
    refine s_21 5 151 rfl rfl ?_
    refine s_96 152 rfl ?_
    refine s_18 60 154 545259519 jw_312 rfl ?_
    refine s_16 8 156 8 jbp_8 rfl ?_
    refine s_21 5 158 rfl rfl ?_
    refine s_104 159 rfl ?_
    refine s_124 160 rfl ?_
    refine s_145 161 rfl ?_
    refine s_84B 162 rfl (fun h12 => ?_)
    refine s_132L 5 1 165 1 ji_1 rfl rfl rfl (fun x13 => ?_)
    refine s_167 255 213 122 rfl rfl ?_
    exact s_jmp (hk122 _ _ _ _ _) ⟨rfl, rfl, rfl, rfl, trivial⟩
theorem w_1_init_122 (l : Launch)  (n : Nat) : ∀ a0 a1 a4 a5 H, JV l mi_1_init jeV 122 [(0, .ref a0), (1, .ref a1), (4, .ref a4), (5, .int a5)] [] H (F_1_init_122  n a0 a1 a4 a5 H) := by
  induction n with
  | zero => intro _ _ _ _ _; exact s_none
  | succ n ih => intro a0 a1 a4 a5 H; exact v_1_init_122 l (F_1_init_122  n) ih a0 a1 a4 a5 H
theorem v_1_init (l : Launch) (a0 : Nat) (a1 : Nat) (a2 : Nat) (a3 : Nat) (H : jH) : JV l mi_1_init jeV 0 [(0, .ref a0), (1, .ref a1), (2, .ref a2), (3, .ref a3)] [] H (F_1_init a0 a1 a2 a3 H) := by
  unfold F_1_init
  refine s_42 1 rfl rfl ?_
  refine s_oinit 0 3 4 3 jw_308 jw_25 jw_26 rfl rfl rfl ?_
  refine s_42 5 rfl rfl ?_
  refine s_17 1 44 8 300 jsp_1_44 rfl ?_
  refine s_189 0 11 11 11 114 ⟨by decide, rfl⟩ (by decide) jw_309 rfl rfl (fun r14 h15 => ?_)
  refine s_181RF 0 13 14 13 f_1_3 rfl ⟨rfl, rfl, rfl⟩ jw_384 rfl rfl (fun h16 => ?_)
  refine s_42 15 rfl rfl ?_
  refine s_17 1 44 18 300 jsp_1_44 rfl ?_
  refine s_189 0 11 21 11 114 ⟨by decide, rfl⟩ (by decide) jw_309 rfl rfl (fun r17 h18 => ?_)
  refine s_181RF 0 17 24 17 f_1_7 rfl ⟨rfl, rfl, rfl⟩ jw_391 rfl rfl (fun h19 => ?_)
  refine s_42 25 rfl rfl ?_
  refine s_17 1 44 28 300 jsp_1_44 rfl ?_
  refine s_189 0 11 31 11 114 ⟨by decide, rfl⟩ (by decide) jw_309 rfl rfl (fun r20 h21 => ?_)
  refine s_181RF 0 20 34 20 f_1_8 rfl ⟨rfl, rfl, rfl⟩ jw_392 rfl rfl (fun h22 => ?_)
  refine s_42 35 rfl rfl ?_
  refine s_17 1 44 38 300 jsp_1_44 rfl ?_
  refine s_189 0 11 41 11 114 ⟨by decide, rfl⟩ (by decide) jw_309 rfl rfl (fun r23 h24 => ?_)
  refine s_181RF 0 23 44 23 f_1_9 rfl ⟨rfl, rfl, rfl⟩ jw_393 rfl rfl (fun h25 => ?_)
  refine s_42 45 rfl rfl ?_
  refine s_16 9 47 9 jbp_9 rfl ?_
  refine s_188_10 49 jw_55 rfl (fun r26 h27 => ?_)
  refine s_181RF 0 26 52 26 f_1_11 rfl ⟨rfl, rfl, rfl⟩ jw_397 rfl rfl (fun h28 => ?_)
  refine s_42 53 rfl rfl ?_
  refine s_16 9 55 9 jbp_9 rfl ?_
  refine s_188_10 57 jw_55 rfl (fun r29 h30 => ?_)
  refine s_181RF 0 30 60 30 f_1_12 rfl ⟨rfl, rfl, rfl⟩ jw_398 rfl rfl (fun h31 => ?_)
  refine s_42 61 rfl rfl ?_
  refine s_16 9 63 9 jbp_9 rfl ?_
  refine s_188_10 65 jw_55 rfl (fun r32 h33 => ?_)
  refine s_181RF 0 33 68 33 f_1_13 rfl ⟨rfl, rfl, rfl⟩ jw_399 rfl rfl (fun h34 => ?_)
  refine s_42 69 rfl rfl ?_
  refine s_16 11 71 11 jbp_11 rfl ?_
  refine s_188_11 73 jw_96 rfl (fun r35 h36 => ?_)
  refine s_181RF 0 36 76 36 f_1_14 rfl ⟨rfl, rfl, rfl⟩ jw_400 rfl rfl (fun h37 => ?_)
  refine s_42 77 rfl rfl ?_
  refine s_17 1 160 80 416 jsp_1_160 rfl ?_
  refine s_188_8 82 jw_54 rfl (fun r38 h39 => ?_)
  refine s_181RF 0 40 85 40 f_1_15 rfl ⟨rfl, rfl, rfl⟩ jw_401 rfl rfl (fun h40 => ?_)
  refine s_42 86 rfl rfl ?_
  refine s_16 32 88 32 jbp_32 rfl ?_
  refine s_188_8 90 jw_54 rfl (fun r41 h42 => ?_)
  refine s_181RF 0 44 93 44 f_1_16 rfl ⟨rfl, rfl, rfl⟩ jw_402 rfl rfl (fun h43 => ?_)
  refine s_42 94 rfl rfl ?_
  refine s_43 95 rfl rfl ?_
  refine s_181RF 0 47 98 47 f_1_0 rfl ⟨rfl, rfl, rfl⟩ jw_381 rfl rfl (fun h44 => ?_)
  refine s_42 99 rfl rfl ?_
  refine s_44 100 rfl rfl ?_
  refine s_181RF 0 51 103 51 f_1_1 rfl ⟨rfl, rfl, rfl⟩ jw_382 rfl rfl (fun h45 => ?_)
  refine s_42 104 rfl rfl ?_
  refine s_45 105 rfl rfl ?_
  refine s_181RF 0 55 108 55 f_1_2 rfl ⟨rfl, rfl, rfl⟩ jw_383 rfl rfl (fun h46 => ?_)
  refine s_16 82 110 82 jbp_82 rfl ?_
  refine s_188_8 112 jw_54 rfl (fun r47 h48 => ?_)
  refine s_58 4 114 rfl rfl ?_
  refine s_25 4 116 rfl rfl ?_
  refine s_4 117 rfl ?_
  refine s_4 118 rfl ?_
  refine s_84B 119 rfl (fun h49 => ?_)
  refine s_3 120 rfl ?_
  refine s_54 5 122 rfl rfl ?_
  exact s_jmp (w_1_init_122 l jfuel _ _ _ _ _) ⟨rfl, rfl, rfl, rfl, trivial⟩
theorem m_1_init (l : Launch) (a0 : Nat) (a1 : Nat) (a2 : Nat) (a3 : Nat) (H : jH) : JMet l y_1_init prog_3_method_1_code mi_1_init jeV [.ref a0, .ref a1, .ref a2, .ref a3] H (F_1_init a0 a1 a2 a3 H) := jmet_of n_1_init (by decide) ⟨rfl, rfl⟩ (Nat.le_of_ble_eq_true rfl) (v_1_init l a0 a1 a2 a3 H)
def mi_2_init : jM := (1786368863773216045192479025724967529757527380691787810990622345075749983044882960945820908555846116465361186159752951594, 50, 1, "CoinNode$Coins", none, "<init>", 1, 12)
def y_2_init : MethodName := ⟨"CoinNode$Coins", "<init>", "()V"⟩
theorem n_2_init : jn_is prog_4_method_1_code mi_2_init.1 mi_2_init.2.1 := by unfold jn_is; decide +kernel
theorem k_2_init : jmok y_2_init prog_4_method_1_code mi_2_init 0 := ⟨jw_269, jw_8, ⟨by decide, by decide⟩, by decide +kernel⟩
theorem v_2_init (l : Launch) (a0 : Nat) (H : jH) : JV l mi_2_init jeV 0 [(0, .ref a0)] [] H (F_2_init a0 H) := by
  unfold F_2_init
  refine s_42 1 rfl rfl ?_
  refine s_oinit 0 1 4 1 jw_270 jw_25 jw_26 rfl rfl rfl ?_
  refine s_42 5 rfl rfl ?_
  refine s_17 5 220 8 1500 jsp_5_220 rfl ?_
  refine s_189 0 9 11 9 113 ⟨by decide, rfl⟩ (by decide) jw_271 rfl rfl (fun r1 h2 => ?_)
  refine s_181RF 0 11 14 11 f_2_0 rfl ⟨rfl, rfl, rfl⟩ jw_273 rfl rfl (fun h3 => ?_)
  refine s_42 15 rfl rfl ?_
  refine s_17 5 220 18 1500 jsp_5_220 rfl ?_
  refine s_188_10 20 jw_55 rfl (fun r4 h5 => ?_)
  refine s_181RF 0 15 23 15 f_2_1 rfl ⟨rfl, rfl, rfl⟩ jw_274 rfl rfl (fun h6 => ?_)
  refine s_42 24 rfl rfl ?_
  refine s_17 5 220 27 1500 jsp_5_220 rfl ?_
  refine s_188_10 29 jw_55 rfl (fun r7 h8 => ?_)
  refine s_181RF 0 19 32 19 f_2_2 rfl ⟨rfl, rfl, rfl⟩ jw_275 rfl rfl (fun h9 => ?_)
  refine s_42 33 rfl rfl ?_
  refine s_16 8 35 8 jbp_8 rfl ?_
  refine s_189 0 9 38 9 113 ⟨by decide, rfl⟩ (by decide) jw_271 rfl rfl (fun r10 h11 => ?_)
  refine s_181RF 0 22 41 22 f_2_6 rfl ⟨rfl, rfl, rfl⟩ jw_281 rfl rfl (fun h12 => ?_)
  refine s_42 42 rfl rfl ?_
  refine s_16 8 44 8 jbp_8 rfl ?_
  refine s_188_10 46 jw_55 rfl (fun r13 h14 => ?_)
  refine s_181RF 0 25 49 25 f_2_7 rfl ⟨rfl, rfl, rfl⟩ jw_282 rfl rfl (fun h15 => ?_)
  exact s_177 rfl rfl
theorem m_2_init (l : Launch) (a0 : Nat) (H : jH) : JMet l y_2_init prog_4_method_1_code mi_2_init jeV [.ref a0] H (F_2_init a0 H) := jmet_of n_2_init (by decide) ⟨rfl, rfl⟩ (Nat.le_of_ble_eq_true rfl) (v_2_init l a0 H)
def mi_3_init : jM := (1624693017009594605123231627245537204338484796544171351980531117088782291896397434627499918945682833979520810, 45, 1, "CoinNode$Hash", none, "<init>", 1, 12)
def y_3_init : MethodName := ⟨"CoinNode$Hash", "<init>", "()V"⟩
theorem n_3_init : jn_is prog_5_method_1_code mi_3_init.1 mi_3_init.2.1 := by unfold jn_is; decide +kernel
theorem k_3_init : jmok y_3_init prog_5_method_1_code mi_3_init 0 := ⟨jw_33, jw_2, ⟨by decide, by decide⟩, by decide +kernel⟩
theorem v_3_init (l : Launch) (a0 : Nat) (H : jH) : JV l mi_3_init jeV 0 [(0, .ref a0)] [] H (F_3_init a0 H) := by
  unfold F_3_init
  refine s_42 1 rfl rfl ?_
  refine s_oinit 0 3 4 3 jw_34 jw_25 jw_26 rfl rfl rfl ?_
  refine s_42 5 rfl rfl ?_
  refine s_17 10 0 8 2560 jsp_10_0 rfl ?_
  refine s_188_8 10 jw_54 rfl (fun r1 h2 => ?_)
  refine s_181RF 0 11 13 11 f_3_0 rfl ⟨rfl, rfl, rfl⟩ jw_35 rfl rfl (fun h3 => ?_)
  refine s_42 14 rfl rfl ?_
  refine s_16 8 16 8 jbp_8 rfl ?_
  refine s_188_10 18 jw_55 rfl (fun r4 h5 => ?_)
  refine s_181RF 0 15 21 15 f_3_2 rfl ⟨rfl, rfl, rfl⟩ jw_37 rfl rfl (fun h6 => ?_)
  refine s_42 22 rfl rfl ?_
  refine s_16 64 24 64 jbp_64 rfl ?_
  refine s_188_10 26 jw_55 rfl (fun r7 h8 => ?_)
  refine s_181RF 0 19 29 19 f_3_3 rfl ⟨rfl, rfl, rfl⟩ jw_38 rfl rfl (fun h9 => ?_)
  refine s_42 30 rfl rfl ?_
  refine s_8 31 rfl ?_
  refine s_188_10 33 jw_55 rfl (fun r10 h11 => ?_)
  refine s_181RF 0 22 36 22 f_3_4 rfl ⟨rfl, rfl, rfl⟩ jw_39 rfl rfl (fun h12 => ?_)
  refine s_42 37 rfl rfl ?_
  refine s_16 32 39 32 jbp_32 rfl ?_
  refine s_188_8 41 jw_54 rfl (fun r13 h14 => ?_)
  refine s_181RF 0 25 44 25 f_3_5 rfl ⟨rfl, rfl, rfl⟩ jw_40 rfl rfl (fun h15 => ?_)
  exact s_177 rfl rfl
theorem m_3_init (l : Launch) (a0 : Nat) (H : jH) : JMet l y_3_init prog_5_method_1_code mi_3_init jeV [.ref a0] H (F_3_init a0 H) := jmet_of n_3_init (by decide) ⟨rfl, rfl⟩ (Nat.le_of_ble_eq_true rfl) (v_3_init l a0 H)
def mi_6_init : jM := (608030718880492979250169209269463755239617566835236783809694369655551077186498121238837621925620532602752176561967293626942189632088852061980961357904069310250, 66, 3, "CoinNode$Pool", none, "<init>", 1, 12)
def y_6_init : MethodName := ⟨"CoinNode$Pool", "<init>", "(LCoinNode$Coins;LCoinNode$Scripts;)V"⟩
theorem n_6_init : jn_is prog_8_method_1_code mi_6_init.1 mi_6_init.2.1 := by unfold jn_is; decide +kernel
theorem k_6_init : jmok y_6_init prog_8_method_1_code mi_6_init 2 := ⟨jw_442, jw_13, ⟨by decide, by decide⟩, by decide +kernel⟩
theorem v_6_init (l : Launch) (a0 : Nat) (a1 : Nat) (a2 : Nat) (H : jH) : JV l mi_6_init jeV 0 [(0, .ref a0), (1, .ref a1), (2, .ref a2)] [] H (F_6_init a0 a1 a2 H) := by
  unfold F_6_init
  refine s_42 1 rfl rfl ?_
  refine s_oinit 0 1 4 1 jw_443 jw_25 jw_26 rfl rfl rfl ?_
  refine s_42 5 rfl rfl ?_
  refine s_16 41 7 41 jbp_41 rfl ?_
  refine s_189 0 9 10 9 113 ⟨by decide, rfl⟩ (by decide) jw_444 rfl rfl (fun r1 h2 => ?_)
  refine s_181RF 0 11 13 11 f_6_2 rfl ⟨rfl, rfl, rfl⟩ jw_447 rfl rfl (fun h3 => ?_)
  refine s_42 14 rfl rfl ?_
  refine s_16 41 16 41 jbp_41 rfl ?_
  refine s_188_11 18 jw_96 rfl (fun r4 h5 => ?_)
  refine s_181RF 0 15 21 15 f_6_3 rfl ⟨rfl, rfl, rfl⟩ jw_448 rfl rfl (fun h6 => ?_)
  refine s_42 22 rfl rfl ?_
  refine s_16 41 24 41 jbp_41 rfl ?_
  refine s_189 0 9 27 9 113 ⟨by decide, rfl⟩ (by decide) jw_444 rfl rfl (fun r7 h8 => ?_)
  refine s_181RF 0 19 30 19 f_6_5 rfl ⟨rfl, rfl, rfl⟩ jw_451 rfl rfl (fun h9 => ?_)
  refine s_42 31 rfl rfl ?_
  refine s_16 41 33 41 jbp_41 rfl ?_
  refine s_188_4 35 jw_239 rfl (fun r10 h11 => ?_)
  refine s_181RF 0 22 38 22 f_6_6 rfl ⟨rfl, rfl, rfl⟩ jw_452 rfl rfl (fun h12 => ?_)
  refine s_42 39 rfl rfl ?_
  refine s_16 8 41 8 jbp_8 rfl ?_
  refine s_189 0 9 44 9 113 ⟨by decide, rfl⟩ (by decide) jw_444 rfl rfl (fun r13 h14 => ?_)
  refine s_181RF 0 26 47 26 f_6_7 rfl ⟨rfl, rfl, rfl⟩ jw_453 rfl rfl (fun h15 => ?_)
  refine s_42 48 rfl rfl ?_
  refine s_16 8 50 8 jbp_8 rfl ?_
  refine s_188_10 52 jw_55 rfl (fun r16 h17 => ?_)
  refine s_181RF 0 29 55 29 f_6_8 rfl ⟨rfl, rfl, rfl⟩ jw_454 rfl rfl (fun h18 => ?_)
  refine s_42 56 rfl rfl ?_
  refine s_43 57 rfl rfl ?_
  refine s_181RF 0 33 60 33 f_6_0 rfl ⟨rfl, rfl, rfl⟩ jw_445 rfl rfl (fun h19 => ?_)
  refine s_42 61 rfl rfl ?_
  refine s_44 62 rfl rfl ?_
  refine s_181RF 0 37 65 37 f_6_1 rfl ⟨rfl, rfl, rfl⟩ jw_446 rfl rfl (fun h20 => ?_)
  exact s_177 rfl rfl
theorem m_6_init (l : Launch) (a0 : Nat) (a1 : Nat) (a2 : Nat) (H : jH) : JMet l y_6_init prog_8_method_1_code mi_6_init jeV [.ref a0, .ref a1, .ref a2] H (F_6_init a0 a1 a2 H) := jmet_of n_6_init (by decide) ⟨rfl, rfl⟩ (Nat.le_of_ble_eq_true rfl) (v_6_init l a0 a1 a2 H)
def mi_9_init : jM := (1111390353900426190766415483182065997295041759937486974400298, 25, 1, "CoinNode$Stack", none, "<init>", 1, 12)
def y_9_init : MethodName := ⟨"CoinNode$Stack", "<init>", "()V"⟩
theorem n_9_init : jn_is prog_11_method_1_code mi_9_init.1 mi_9_init.2.1 := by unfold jn_is; decide +kernel
theorem k_9_init : jmok y_9_init prog_11_method_1_code mi_9_init 0 := ⟨jw_160, jw_7, ⟨by decide, by decide⟩, by decide +kernel⟩
theorem v_9_init (l : Launch) (a0 : Nat) (H : jH) : JV l mi_9_init jeV 0 [(0, .ref a0)] [] H (F_9_init a0 H) := by
  unfold F_9_init
  refine s_42 1 rfl rfl ?_
  refine s_oinit 0 1 4 1 jw_161 jw_25 jw_26 rfl rfl rfl ?_
  refine s_42 5 rfl rfl ?_
  refine s_16 70 7 70 jbp_70 rfl ?_
  refine s_16 120 9 120 jbp_120 rfl ?_
  refine s_197 0 9 13 9 110 101 (ty := .byte) ⟨by decide, rfl⟩ ⟨by decide, rfl, by decide⟩ (by decide) (fun _ _ => rfl) rfl rfl rfl (by decide) (fun U h => h.2.2.1.2.1) (by rw [show "[" ++ (FieldType.array FieldType.byte).toString = "[[B" from by decide]; exact jw_162) jw_54 rfl n_9_init (by decide +kernel) rfl (fun r1 h2 => ?_)
  refine s_181RF 0 11 16 11 f_9_0 rfl ⟨rfl, rfl, rfl⟩ jw_163 rfl rfl (fun h3 => ?_)
  refine s_42 17 rfl rfl ?_
  refine s_16 70 19 70 jbp_70 rfl ?_
  refine s_188_10 21 jw_55 rfl (fun r4 h5 => ?_)
  refine s_181RF 0 14 24 14 f_9_1 rfl ⟨rfl, rfl, rfl⟩ jw_165 rfl rfl (fun h6 => ?_)
  exact s_177 rfl rfl
theorem m_9_init (l : Launch) (a0 : Nat) (H : jH) : JMet l y_9_init prog_11_method_1_code mi_9_init jeV [.ref a0] H (F_9_init a0 H) := jmet_of n_9_init (by decide) ⟨rfl, rfl⟩ (Nat.le_of_ble_eq_true rfl) (v_9_init l a0 H)
def mi_4_init : jM := (39847901192499613638410920589372347204824521591545435051064433117217207887117013918938002272981549649980893717002475142689336230096126738551927654875079578038089514, 68, 2, "CoinNode$Machine", none, "<init>", 2, 32)
def y_4_init : MethodName := ⟨"CoinNode$Machine", "<init>", "(LCoinNode$Hash;)V"⟩
theorem n_4_init : jn_is prog_6_method_1_code mi_4_init.1 mi_4_init.2.1 := by unfold jn_is; decide +kernel
theorem k_4_init : jmok y_4_init prog_6_method_1_code mi_4_init 1 := ⟨jw_154, jw_6, ⟨by decide, by decide⟩, by decide +kernel⟩
theorem v_4_init (l : Launch) (a0 : Nat) (a1 : Nat) (H : jH) : JV l mi_4_init jeV 0 [(0, .ref a0), (1, .ref a1)] [] H (F_4_init a0 a1 H) := by
  unfold F_4_init
  refine s_42 1 rfl rfl ?_
  refine s_oinit 0 5 4 5 jw_155 jw_25 jw_26 rfl rfl rfl ?_
  refine s_42 5 rfl rfl ?_
  refine s_187 0 11 8 11 jc_9 jw_156 jw_157 jw_7 rfl rfl (fun r1 h2 => ?_)
  refine s_89 9 rfl rfl ?_
  refine s_183VN 0 13 12 13 (m_9_init l _ _) rfl k_9_init rfl rfl jnm_2 jw_159 rfl rfl rfl rfl rfl (fun x3 h4 => ?_)
  refine s_181RF 0 14 15 14 f_4_1 rfl ⟨rfl, rfl, rfl⟩ jw_177 rfl rfl (fun h5 => ?_)
  refine s_42 16 rfl rfl ?_
  refine s_187 0 11 19 11 jc_9 jw_156 jw_157 jw_7 rfl rfl (fun r6 h7 => ?_)
  refine s_89 20 rfl rfl ?_
  refine s_183VN 0 13 23 13 (m_9_init l _ _) rfl k_9_init rfl rfl jnm_2 jw_159 rfl rfl rfl rfl rfl (fun x8 h9 => ?_)
  refine s_181RF 0 20 26 20 f_4_2 rfl ⟨rfl, rfl, rfl⟩ jw_178 rfl rfl (fun h10 => ?_)
  refine s_42 27 rfl rfl ?_
  refine s_187 0 11 30 11 jc_9 jw_156 jw_157 jw_7 rfl rfl (fun r11 h12 => ?_)
  refine s_89 31 rfl rfl ?_
  refine s_183VN 0 13 34 13 (m_9_init l _ _) rfl k_9_init rfl rfl jnm_2 jw_159 rfl rfl rfl rfl rfl (fun x13 h14 => ?_)
  refine s_181RF 0 23 37 23 f_4_3 rfl ⟨rfl, rfl, rfl⟩ jw_179 rfl rfl (fun h15 => ?_)
  refine s_42 38 rfl rfl ?_
  refine s_16 32 40 32 jbp_32 rfl ?_
  refine s_188_8 42 jw_54 rfl (fun r16 h17 => ?_)
  refine s_181RF 0 26 45 26 f_4_4 rfl ⟨rfl, rfl, rfl⟩ jw_180 rfl rfl (fun h18 => ?_)
  refine s_42 46 rfl rfl ?_
  refine s_42 47 rfl rfl ?_
  refine s_180R 0 26 50 26 f_4_4 jw_180 rfl rfl ?_
  refine s_181R 0 30 53 30 f_4_5 rfl rfl jw_181 rfl rfl (fun h19 => ?_)
  refine s_42 54 rfl rfl ?_
  refine s_17 0 200 57 200 jsp_0_200 rfl ?_
  refine s_188_4 59 jw_239 rfl (fun r20 h21 => ?_)
  refine s_181RF 0 33 62 33 f_4_11 rfl ⟨rfl, rfl, rfl⟩ jw_189 rfl rfl (fun h22 => ?_)
  refine s_42 63 rfl rfl ?_
  refine s_43 64 rfl rfl ?_
  refine s_181RF 0 37 67 37 f_4_0 rfl ⟨rfl, rfl, rfl⟩ jw_176 rfl rfl (fun h23 => ?_)
  exact s_177 rfl rfl
theorem m_4_init (l : Launch) (a0 : Nat) (a1 : Nat) (H : jH) : JMet l y_4_init prog_6_method_1_code mi_4_init jeV [.ref a0, .ref a1] H (F_4_init a0 a1 H) := jmet_of n_4_init (by decide) ⟨rfl, rfl⟩ (Nat.le_of_ble_eq_true rfl) (v_4_init l a0 a1 H)
def mi_5_init : jM := (5248971517044840168068238699782192289140329329249221739009755107454012900459460394, 34, 1, "CoinNode$Point", none, "<init>", 1, 12)
def y_5_init : MethodName := ⟨"CoinNode$Point", "<init>", "()V"⟩
theorem n_5_init : jn_is prog_7_method_1_code mi_5_init.1 mi_5_init.2.1 := by unfold jn_is; decide +kernel
theorem k_5_init : jmok y_5_init prog_7_method_1_code mi_5_init 0 := ⟨jw_77, jw_5, ⟨by decide, by decide⟩, by decide +kernel⟩
theorem v_5_init (l : Launch) (a0 : Nat) (H : jH) : JV l mi_5_init jeV 0 [(0, .ref a0)] [] H (F_5_init a0 H) := by
  unfold F_5_init
  refine s_42 1 rfl rfl ?_
  refine s_oinit 0 1 4 1 jw_78 jw_25 jw_26 rfl rfl rfl ?_
  refine s_42 5 rfl rfl ?_
  refine s_16 10 7 10 jbp_10 rfl ?_
  refine s_188_11 9 jw_96 rfl (fun r1 h2 => ?_)
  refine s_181RF 0 7 12 7 f_5_0 rfl ⟨rfl, rfl, rfl⟩ jw_79 rfl rfl (fun h3 => ?_)
  refine s_42 13 rfl rfl ?_
  refine s_16 10 15 10 jbp_10 rfl ?_
  refine s_188_11 17 jw_96 rfl (fun r4 h5 => ?_)
  refine s_181RF 0 13 20 13 f_5_1 rfl ⟨rfl, rfl, rfl⟩ jw_81 rfl rfl (fun h6 => ?_)
  refine s_42 21 rfl rfl ?_
  refine s_16 10 23 10 jbp_10 rfl ?_
  refine s_188_11 25 jw_96 rfl (fun r7 h8 => ?_)
  refine s_181RF 0 16 28 16 f_5_2 rfl ⟨rfl, rfl, rfl⟩ jw_83 rfl rfl (fun h9 => ?_)
  refine s_42 29 rfl rfl ?_
  refine s_4 30 rfl ?_
  refine s_181Z 0 19 33 19 f_5_3 rfl rfl jw_85 rfl rfl (fun h10 => ?_)
  exact s_177 rfl rfl
theorem m_5_init (l : Launch) (a0 : Nat) (H : jH) : JMet l y_5_init prog_7_method_1_code mi_5_init jeV [.ref a0] H (F_5_init a0 H) := jmet_of n_5_init (by decide) ⟨rfl, rfl⟩ (Nat.le_of_ble_eq_true rfl) (v_5_init l a0 H)
def mi_8_init : jM := (354625133015781255131600705949907691172544074074472918964343130825910020043002179139565401397543137494027878004384519671620162308038467665746855662900306472437849925026952223290414686473441878998700543137599807868045686875573379442724754575633962057534863755355274449926714459446163126956322578534465574326627636042904899015497528078678396453310090653848899928325334376841716789631843110873749063974108433010813463552524397275208446510151466, 183, 2, "CoinNode$Signature", none, "<init>", 2, 32)
def y_8_init : MethodName := ⟨"CoinNode$Signature", "<init>", "()V"⟩
theorem n_8_init : jn_is prog_10_method_1_code mi_8_init.1 mi_8_init.2.1 := by unfold jn_is; decide +kernel
theorem k_8_init : jmok y_8_init prog_10_method_1_code mi_8_init 0 := ⟨jw_66, jw_4, ⟨by decide, by decide⟩, by decide +kernel⟩
theorem v_8_init_144 (l : Launch) (k144 : Nat → Int32 → jH → Option (Unit × jH)) (hk144 : ∀ a0 a1 H, JV l mi_8_init jeV 144 [(0, .ref a0), (1, .int a1)] [] H (k144 a0 a1 H)) (a0 : Nat) (a1 : Int32) (H : jH) : JV l mi_8_init jeV 144 [(0, .ref a0), (1, .int a1)] [] H (B_8_init_144 k144 a0 a1 H) := by
  unfold B_8_init_144
  refine s_27 145 rfl rfl ?_
  refine s_16 8 147 8 jbp_8 rfl ?_
  refine s_162 0 35 182 150 rfl rfl ?_ ?_
  · exact s_177 rfl rfl
  · refine s_42 151 rfl rfl ?_
    refine s_180R 0 51 154 51 f_8_12 jw_110 rfl rfl ?_
    refine s_27 155 rfl rfl ?_
    refine s_187 0 49 158 49 jc_5 jw_72 jw_74 jw_5 rfl rfl (fun r1 h2 => ?_)
    refine s_89 159 rfl rfl ?_
    refine s_183VN 0 58 162 58 (m_5_init l _ _) rfl k_5_init rfl rfl jnm_1 jw_76 rfl rfl rfl rfl rfl (fun x3 h4 => ?_)
    refine s_83 163 115 5 js_115 jc_5 rfl (fun h5 => ?_)
    refine s_42 164 rfl rfl ?_
    refine s_180R 0 55 167 55 f_8_13 jw_111 rfl rfl ?_
    refine s_27 168 rfl rfl ?_
    refine s_187 0 49 171 49 jc_5 jw_72 jw_74 jw_5 rfl rfl (fun r6 h7 => ?_)
    refine s_89 172 rfl rfl ?_
    refine s_183VN 0 58 175 58 (m_5_init l _ _) rfl k_5_init rfl rfl jnm_1 jw_76 rfl rfl rfl rfl rfl (fun x8 h9 => ?_)
    refine s_83 176 115 5 js_115 jc_5 rfl (fun h10 => ?_)
    refine s_132L 1 1 179 1 ji_1 rfl rfl rfl (fun x11 => ?_)
    refine s_167 255 221 144 rfl rfl ?_
    exact s_jmp (hk144 _ _ _) ⟨rfl, rfl, trivial⟩
theorem w_8_init_144 (l : Launch)  (n : Nat) : ∀ a0 a1 H, JV l mi_8_init jeV 144 [(0, .ref a0), (1, .int a1)] [] H (F_8_init_144  n a0 a1 H) := by
  induction n with
  | zero => intro _ _ _; exact s_none
  | succ n ih => intro a0 a1 H; exact v_8_init_144 l (F_8_init_144  n) ih a0 a1 H
theorem v_8_init (l : Launch) (a0 : Nat) (H : jH) : JV l mi_8_init jeV 0 [(0, .ref a0)] [] H (F_8_init a0 H) := by
  unfold F_8_init
  refine s_42 1 rfl rfl ?_
  refine s_oinit 0 3 4 3 jw_67 jw_25 jw_26 rfl rfl rfl ?_
  refine s_42 5 rfl rfl ?_
  refine s_16 8 7 8 jbp_8 rfl ?_
  refine s_188_10 9 jw_55 rfl (fun r12 h13 => ?_)
  refine s_181RF 0 9 12 9 f_8_1 rfl ⟨rfl, rfl, rfl⟩ jw_99 rfl rfl (fun h14 => ?_)
  refine s_42 13 rfl rfl ?_
  refine s_16 8 15 8 jbp_8 rfl ?_
  refine s_188_10 17 jw_55 rfl (fun r15 h16 => ?_)
  refine s_181RF 0 15 20 15 f_8_2 rfl ⟨rfl, rfl, rfl⟩ jw_100 rfl rfl (fun h17 => ?_)
  refine s_42 21 rfl rfl ?_
  refine s_16 8 23 8 jbp_8 rfl ?_
  refine s_188_10 25 jw_55 rfl (fun r18 h19 => ?_)
  refine s_181RF 0 18 28 18 f_8_3 rfl ⟨rfl, rfl, rfl⟩ jw_101 rfl rfl (fun h20 => ?_)
  refine s_42 29 rfl rfl ?_
  refine s_16 8 31 8 jbp_8 rfl ?_
  refine s_188_10 33 jw_55 rfl (fun r21 h22 => ?_)
  refine s_181RF 0 21 36 21 f_8_4 rfl ⟨rfl, rfl, rfl⟩ jw_102 rfl rfl (fun h23 => ?_)
  refine s_42 37 rfl rfl ?_
  refine s_16 8 39 8 jbp_8 rfl ?_
  refine s_188_10 41 jw_55 rfl (fun r24 h25 => ?_)
  refine s_181RF 0 24 44 24 f_8_5 rfl ⟨rfl, rfl, rfl⟩ jw_103 rfl rfl (fun h26 => ?_)
  refine s_42 45 rfl rfl ?_
  refine s_16 16 47 16 jbp_16 rfl ?_
  refine s_188_10 49 jw_55 rfl (fun r27 h28 => ?_)
  refine s_181RF 0 27 52 27 f_8_6 rfl ⟨rfl, rfl, rfl⟩ jw_104 rfl rfl (fun h29 => ?_)
  refine s_42 53 rfl rfl ?_
  refine s_16 8 55 8 jbp_8 rfl ?_
  refine s_188_10 57 jw_55 rfl (fun r30 h31 => ?_)
  refine s_181RF 0 30 60 30 f_8_7 rfl ⟨rfl, rfl, rfl⟩ jw_105 rfl rfl (fun h32 => ?_)
  refine s_42 61 rfl rfl ?_
  refine s_16 16 63 16 jbp_16 rfl ?_
  refine s_16 8 65 8 jbp_8 rfl ?_
  refine s_197 0 33 69 33 111 100 (ty := .int) ⟨by decide, rfl⟩ ⟨by decide, rfl, by decide⟩ (by decide) (fun _ _ => rfl) rfl rfl rfl (by decide) (fun U h => h.2.2.1.2.2.1) (by rw [show "[" ++ (FieldType.array FieldType.int).toString = "[[I" from by decide]; exact jw_68) jw_55 rfl n_8_init (by decide +kernel) rfl (fun r33 h34 => ?_)
  refine s_181RF 0 35 72 35 f_8_8 rfl ⟨rfl, rfl, rfl⟩ jw_106 rfl rfl (fun h35 => ?_)
  refine s_42 73 rfl rfl ?_
  refine s_16 16 75 16 jbp_16 rfl ?_
  refine s_16 10 77 10 jbp_10 rfl ?_
  refine s_197 0 38 81 38 112 103 (ty := .long) ⟨by decide, rfl⟩ ⟨by decide, rfl, by decide⟩ (by decide) (fun _ _ => rfl) rfl rfl rfl (by decide) (fun U h => h.2.2.1.2.2.2) (by rw [show "[" ++ (FieldType.array FieldType.long).toString = "[[J" from by decide]; exact jw_70) jw_96 rfl n_8_init (by decide +kernel) rfl (fun r36 h37 => ?_)
  refine s_181RF 0 40 84 40 f_8_9 rfl ⟨rfl, rfl, rfl⟩ jw_107 rfl rfl (fun h38 => ?_)
  refine s_42 85 rfl rfl ?_
  refine s_17 1 1 88 257 jsp_1_1 rfl ?_
  refine s_188_10 90 jw_55 rfl (fun r39 h40 => ?_)
  refine s_181RF 0 43 93 43 f_8_10 rfl ⟨rfl, rfl, rfl⟩ jw_108 rfl rfl (fun h41 => ?_)
  refine s_42 94 rfl rfl ?_
  refine s_17 1 1 97 257 jsp_1_1 rfl ?_
  refine s_188_10 99 jw_55 rfl (fun r42 h43 => ?_)
  refine s_181RF 0 46 102 46 f_8_11 rfl ⟨rfl, rfl, rfl⟩ jw_109 rfl rfl (fun h44 => ?_)
  refine s_42 103 rfl rfl ?_
  refine s_16 8 105 8 jbp_8 rfl ?_
  refine s_189 0 49 108 49 115 ⟨by decide, rfl⟩ (by decide) jw_72 rfl rfl (fun r45 h46 => ?_)
  refine s_181RF 0 51 111 51 f_8_12 rfl ⟨rfl, rfl, rfl⟩ jw_110 rfl rfl (fun h47 => ?_)
  refine s_42 112 rfl rfl ?_
  refine s_16 8 114 8 jbp_8 rfl ?_
  refine s_189 0 49 117 49 115 ⟨by decide, rfl⟩ (by decide) jw_72 rfl rfl (fun r48 h49 => ?_)
  refine s_181RF 0 55 120 55 f_8_13 rfl ⟨rfl, rfl, rfl⟩ jw_111 rfl rfl (fun h50 => ?_)
  refine s_42 121 rfl rfl ?_
  refine s_187 0 49 124 49 jc_5 jw_72 jw_74 jw_5 rfl rfl (fun r51 h52 => ?_)
  refine s_89 125 rfl rfl ?_
  refine s_183VN 0 58 128 58 (m_5_init l _ _) rfl k_5_init rfl rfl jnm_1 jw_76 rfl rfl rfl rfl rfl (fun x53 h54 => ?_)
  refine s_181RF 0 59 131 59 f_8_14 rfl ⟨rfl, rfl, rfl⟩ jw_112 rfl rfl (fun h55 => ?_)
  refine s_42 132 rfl rfl ?_
  refine s_187 0 49 135 49 jc_5 jw_72 jw_74 jw_5 rfl rfl (fun r56 h57 => ?_)
  refine s_89 136 rfl rfl ?_
  refine s_183VN 0 58 139 58 (m_5_init l _ _) rfl k_5_init rfl rfl jnm_1 jw_76 rfl rfl rfl rfl rfl (fun x58 h59 => ?_)
  refine s_181RF 0 63 142 63 f_8_15 rfl ⟨rfl, rfl, rfl⟩ jw_113 rfl rfl (fun h60 => ?_)
  refine s_3 143 rfl ?_
  refine s_60 144 rfl rfl ?_
  exact s_jmp (w_8_init_144 l jfuel _ _ _) ⟨rfl, rfl, trivial⟩
theorem m_8_init (l : Launch) (a0 : Nat) (H : jH) : JMet l y_8_init prog_10_method_1_code mi_8_init jeV [.ref a0] H (F_8_init a0 H) := jmet_of n_8_init (by decide) ⟨rfl, rfl⟩ (Nat.le_of_ble_eq_true rfl) (v_8_init l a0 H)
def mi_7_init : jM := (1786723481876584553874977999496871487796514837404560245611418258386790060105103703173316364786614111061431659349296592682, 50, 2, "CoinNode$Scripts", none, "<init>", 3, 53)
def y_7_init : MethodName := ⟨"CoinNode$Scripts", "<init>", "(LCoinNode$Hash;)V"⟩
theorem n_7_init : jn_is prog_9_method_1_code mi_7_init.1 mi_7_init.2.1 := by unfold jn_is; decide +kernel
theorem k_7_init : jmok y_7_init prog_9_method_1_code mi_7_init 1 := ⟨jw_60, jw_3, ⟨by decide, by decide⟩, by decide +kernel⟩
theorem v_7_init (l : Launch) (a0 : Nat) (a1 : Nat) (H : jH) : JV l mi_7_init jeV 0 [(0, .ref a0), (1, .ref a1)] [] H (F_7_init a0 a1 H) := by
  unfold F_7_init
  refine s_42 1 rfl rfl ?_
  refine s_oinit 0 3 4 3 jw_61 jw_25 jw_26 rfl rfl rfl ?_
  refine s_42 5 rfl rfl ?_
  refine s_187 0 9 8 9 jc_8 jw_62 jw_63 jw_4 rfl rfl (fun r1 h2 => ?_)
  refine s_89 9 rfl rfl ?_
  refine s_183V 0 11 12 11 (m_8_init l _ _) rfl k_8_init rfl rfl jw_64 jw_65 rfl rfl rfl rfl rfl (fun x3 h4 => ?_)
  refine s_181RF 0 12 15 12 f_7_2 rfl ⟨rfl, rfl, rfl⟩ jw_242 rfl rfl (fun h5 => ?_)
  refine s_42 16 rfl rfl ?_
  refine s_17 9 96 19 2400 jsp_9_96 rfl ?_
  refine s_188_8 21 jw_54 rfl (fun r6 h7 => ?_)
  refine s_181RF 0 18 24 18 f_7_3 rfl ⟨rfl, rfl, rfl⟩ jw_243 rfl rfl (fun h8 => ?_)
  refine s_42 25 rfl rfl ?_
  refine s_16 32 27 32 jbp_32 rfl ?_
  refine s_188_8 29 jw_54 rfl (fun r9 h10 => ?_)
  refine s_181RF 0 22 32 22 f_7_5 rfl ⟨rfl, rfl, rfl⟩ jw_245 rfl rfl (fun h11 => ?_)
  refine s_42 33 rfl rfl ?_
  refine s_43 34 rfl rfl ?_
  refine s_181RF 0 25 37 25 f_7_0 rfl ⟨rfl, rfl, rfl⟩ jw_240 rfl rfl (fun h12 => ?_)
  refine s_42 38 rfl rfl ?_
  refine s_187 0 29 41 29 jc_4 jw_150 jw_151 jw_6 rfl rfl (fun r13 h14 => ?_)
  refine s_89 42 rfl rfl ?_
  refine s_43 43 rfl rfl ?_
  refine s_183V 0 31 46 31 (m_4_init l _ _ _) rfl k_4_init rfl rfl jw_152 jw_153 rfl rfl rfl rfl rfl (fun x15 h16 => ?_)
  refine s_181RF 0 34 49 34 f_7_1 rfl ⟨rfl, rfl, rfl⟩ jw_241 rfl rfl (fun h17 => ?_)
  exact s_177 rfl rfl
theorem m_7_init (l : Launch) (a0 : Nat) (a1 : Nat) (H : jH) : JMet l y_7_init prog_9_method_1_code mi_7_init jeV [.ref a0, .ref a1] H (F_7_init a0 a1 H) := jmet_of n_7_init (by decide) ⟨rfl, rfl⟩ (Nat.le_of_ble_eq_true rfl) (v_7_init l a0 a1 H)
def mi_11_init : jM := (2296253703718190580777190508266062010170859856659262162360429093434852280830415900252294135020668200370622611560498397670678115430722492116459543411269354625129852764869102683646183091487440584399382227506211681025186562318897491822040878696297554924465349196062443516586788933087531436462598515956647578782405640342151469512490, 136, 1, "CoinNode", none, "<init>", 4, 143)
def y_11_init : MethodName := ⟨"CoinNode", "<init>", "()V"⟩
theorem n_11_init : jn_is prog_1_method_1_code mi_11_init.1 mi_11_init.2.1 := by unfold jn_is; decide +kernel
theorem k_11_init : jmok y_11_init prog_1_method_1_code mi_11_init 0 := ⟨jw_23, jw_1, ⟨by decide, by decide⟩, by decide +kernel⟩
theorem v_11_init (l : Launch) (a0 : Nat) (H : jH) : JV l mi_11_init jeV 0 [(0, .ref a0)] [] H (F_11_init a0 H) := by
  unfold F_11_init
  refine s_42 1 rfl rfl ?_
  refine s_oinit 0 1 4 1 jw_24 jw_25 jw_26 rfl rfl rfl ?_
  refine s_42 5 rfl rfl ?_
  refine s_17 7 208 8 2000 jsp_7_208 rfl ?_
  refine s_188_8 10 jw_54 rfl (fun r1 h2 => ?_)
  refine s_181RF 0 9 13 9 f_11_0 rfl ⟨rfl, rfl, rfl⟩ jw_477 rfl rfl (fun h3 => ?_)
  refine s_42 14 rfl rfl ?_
  refine s_16 32 16 32 jbp_32 rfl ?_
  refine s_188_8 18 jw_54 rfl (fun r4 h5 => ?_)
  refine s_181RF 0 13 21 13 f_11_2 rfl ⟨rfl, rfl, rfl⟩ jw_479 rfl rfl (fun h6 => ?_)
  refine s_42 22 rfl rfl ?_
  refine s_7 23 rfl ?_
  refine s_17 31 64 26 8000 jsp_31_64 rfl ?_
  refine s_197 0 16 30 16 110 101 (ty := .byte) ⟨by decide, rfl⟩ ⟨by decide, rfl, by decide⟩ (by decide) (fun _ _ => rfl) rfl rfl rfl (by decide) (fun U h => h.2.2.1.2.1) (by rw [show "[" ++ (FieldType.array FieldType.byte).toString = "[[B" from by decide]; exact jw_27) jw_54 rfl n_11_init (by decide +kernel) rfl (fun r7 h8 => ?_)
  refine s_181RF 0 18 33 18 f_11_4 rfl ⟨rfl, rfl, rfl⟩ jw_481 rfl rfl (fun h9 => ?_)
  refine s_42 34 rfl rfl ?_
  refine s_7 35 rfl ?_
  refine s_188_10 37 jw_55 rfl (fun r10 h11 => ?_)
  refine s_181RF 0 21 40 21 f_11_5 rfl ⟨rfl, rfl, rfl⟩ jw_482 rfl rfl (fun h12 => ?_)
  refine s_42 41 rfl rfl ?_
  refine s_7 42 rfl ?_
  refine s_188_10 44 jw_55 rfl (fun r13 h14 => ?_)
  refine s_181RF 0 25 47 25 f_11_6 rfl ⟨rfl, rfl, rfl⟩ jw_483 rfl rfl (fun h15 => ?_)
  refine s_42 48 rfl rfl ?_
  refine s_17 7 208 51 2000 jsp_7_208 rfl ?_
  refine s_188_8 53 jw_54 rfl (fun r16 h17 => ?_)
  refine s_181RF 0 28 56 28 f_11_7 rfl ⟨rfl, rfl, rfl⟩ jw_484 rfl rfl (fun h18 => ?_)
  refine s_42 57 rfl rfl ?_
  refine s_187 0 31 60 31 jc_3 jw_29 jw_30 jw_2 rfl rfl (fun r19 h20 => ?_)
  refine s_89 61 rfl rfl ?_
  refine s_183VN 0 33 64 33 (m_3_init l _ _) rfl k_3_init rfl rfl jnm_0 jw_32 rfl rfl rfl rfl rfl (fun x21 h22 => ?_)
  refine s_181RF 0 34 67 34 f_11_9 rfl ⟨rfl, rfl, rfl⟩ jw_486 rfl rfl (fun h23 => ?_)
  refine s_42 68 rfl rfl ?_
  refine s_187 0 38 71 38 jc_7 jw_56 jw_57 jw_3 rfl rfl (fun r24 h25 => ?_)
  refine s_89 72 rfl rfl ?_
  refine s_42 73 rfl rfl ?_
  refine s_180R 0 34 76 34 f_11_9 jw_486 rfl rfl ?_
  refine s_183V 0 40 79 40 (m_7_init l _ _ _) rfl k_7_init rfl rfl jw_58 jw_59 rfl rfl rfl rfl rfl (fun x26 h27 => ?_)
  refine s_181RF 0 43 82 43 f_11_10 rfl ⟨rfl, rfl, rfl⟩ jw_487 rfl rfl (fun h28 => ?_)
  refine s_42 83 rfl rfl ?_
  refine s_187 0 47 86 47 jc_2 jw_265 jw_266 jw_8 rfl rfl (fun r29 h30 => ?_)
  refine s_89 87 rfl rfl ?_
  refine s_183VN 0 49 90 49 (m_2_init l _ _) rfl k_2_init rfl rfl jnm_3 jw_268 rfl rfl rfl rfl rfl (fun x31 h32 => ?_)
  refine s_181RF 0 50 93 50 f_11_11 rfl ⟨rfl, rfl, rfl⟩ jw_488 rfl rfl (fun h33 => ?_)
  refine s_42 94 rfl rfl ?_
  refine s_187 0 54 97 54 jc_1 jw_303 jw_304 jw_9 rfl rfl (fun r34 h35 => ?_)
  refine s_89 98 rfl rfl ?_
  refine s_42 99 rfl rfl ?_
  refine s_180R 0 34 102 34 f_11_9 jw_486 rfl rfl ?_
  refine s_42 103 rfl rfl ?_
  refine s_180R 0 50 106 50 f_11_11 jw_488 rfl rfl ?_
  refine s_42 107 rfl rfl ?_
  refine s_180R 0 43 110 43 f_11_10 jw_487 rfl rfl ?_
  refine s_183V 0 56 113 56 (m_1_init l _ _ _ _ _) rfl k_1_init rfl rfl jw_305 jw_306 rfl rfl rfl rfl rfl (fun x36 h37 => ?_)
  refine s_181RF 0 59 116 59 f_11_12 rfl ⟨rfl, rfl, rfl⟩ jw_489 rfl rfl (fun h38 => ?_)
  refine s_42 117 rfl rfl ?_
  refine s_187 0 63 120 63 jc_6 jw_438 jw_439 jw_13 rfl rfl (fun r39 h40 => ?_)
  refine s_89 121 rfl rfl ?_
  refine s_42 122 rfl rfl ?_
  refine s_180R 0 50 125 50 f_11_11 jw_488 rfl rfl ?_
  refine s_42 126 rfl rfl ?_
  refine s_180R 0 43 129 43 f_11_10 jw_487 rfl rfl ?_
  refine s_183V 0 65 132 65 (m_6_init l _ _ _ _) rfl k_6_init rfl rfl jw_440 jw_441 rfl rfl rfl rfl rfl (fun x41 h42 => ?_)
  refine s_181RF 0 68 135 68 f_11_13 rfl ⟨rfl, rfl, rfl⟩ jw_490 rfl rfl (fun h43 => ?_)
  exact s_177 rfl rfl
theorem m_11_init (l : Launch) (a0 : Nat) (H : jH) : JMet l y_11_init prog_1_method_1_code mi_11_init jeV [.ref a0] H (F_11_init a0 H) := jmet_of n_11_init (by decide) ⟨rfl, rfl⟩ (Nat.le_of_ble_eq_true rfl) (v_11_init l a0 H)
def mi_11_layOnTape : jM := (7007246418658276945763220271893693662715852914785117298910194981144195202054223210237573761680792191999955196012468240, 49, 3, "CoinNode", none, "layOnTape", 0, 0)
def y_11_layOnTape : MethodName := ⟨"CoinNode", "layOnTape", "(I)V"⟩
theorem n_11_layOnTape : jn_is prog_1_method_11_code mi_11_layOnTape.1 mi_11_layOnTape.2.1 := by unfold jn_is; decide +kernel
theorem k_11_layOnTape : jmok y_11_layOnTape prog_1_method_11_code mi_11_layOnTape 1 := ⟨jw_634, jw_1, ⟨by decide, by decide⟩, by decide +kernel⟩
theorem v_11_layOnTape_42 (l : Launch) (k3 : Nat → Int32 → Int32 → jH → Option (Unit × jH)) (hk3 : ∀ a0 a1 a2 H, JV l mi_11_layOnTape jeV 3 [(0, .ref a0), (1, .int a1), (2, .int a2)] [] H (k3 a0 a1 a2 H)) (a0 : Nat) (a1 : Int32) (a2 : Int32) (H : jH) : JV l mi_11_layOnTape jeV 42 [(0, .ref a0), (1, .int a1), (2, .int a2)] [] H (B_11_layOnTape_42 k3 a0 a1 a2 H) := by
  unfold B_11_layOnTape_42
  refine s_132L 2 248 45 (-8) ji_248 rfl rfl rfl (fun x1 => ?_)
  refine s_167 255 214 3 rfl rfl ?_
  exact s_jmp (hk3 _ _ _ _) ⟨rfl, rfl, rfl, trivial⟩
theorem v_11_layOnTape_3 (l : Launch) (k3 : Nat → Int32 → Int32 → jH → Option (Unit × jH)) (hk3 : ∀ a0 a1 a2 H, JV l mi_11_layOnTape jeV 3 [(0, .ref a0), (1, .int a1), (2, .int a2)] [] H (k3 a0 a1 a2 H)) (a0 : Nat) (a1 : Int32) (a2 : Int32) (H : jH) : JV l mi_11_layOnTape jeV 3 [(0, .ref a0), (1, .int a1), (2, .int a2)] [] H (B_11_layOnTape_3 k3 a0 a1 a2 H) := by
  unfold B_11_layOnTape_3
  refine s_28 4 rfl rfl ?_
  refine s_155 0 44 48 7 rfl rfl ?_ ?_
  · exact s_177 rfl rfl
  · refine s_42 8 rfl rfl ?_
    refine s_180I 0 72 11 72 f_11_1 jw_478 rfl rfl ?_
    refine s_42 12 rfl rfl ?_
    refine s_180R 0 9 15 9 f_11_0 jw_477 rfl rfl ?_
    refine s_190 16 101 jm_101 rfl ?_
    refine s_162 0 26 42 19 rfl rfl ?_ ?_
    · exact s_jmp (v_11_layOnTape_42 l k3 hk3 _ _ _ _) ⟨rfl, rfl, rfl, trivial⟩
    · refine s_42 20 rfl rfl ?_
      refine s_180R 0 9 23 9 f_11_0 jw_477 rfl rfl ?_
      refine s_42 24 rfl rfl ?_
      refine s_180I 0 72 27 72 f_11_1 jw_478 rfl rfl ?_
      refine s_27 28 rfl rfl ?_
      refine s_28 29 rfl rfl ?_
      refine s_124 30 rfl ?_
      refine s_145 31 rfl ?_
      refine s_84B 32 rfl (fun h2 => ?_)
      refine s_42 33 rfl rfl ?_
      refine s_89 34 rfl rfl ?_
      refine s_180I 0 72 37 72 f_11_1 jw_478 rfl rfl ?_
      refine s_4 38 rfl ?_
      refine s_96 39 rfl ?_
      refine s_181I 0 72 42 72 f_11_1 rfl rfl jw_478 rfl rfl (fun h3 => ?_)
      exact s_jmp (v_11_layOnTape_42 l k3 hk3 _ _ _ _) ⟨rfl, rfl, rfl, trivial⟩
theorem w_11_layOnTape_3 (l : Launch)  (n : Nat) : ∀ a0 a1 a2 H, JV l mi_11_layOnTape jeV 3 [(0, .ref a0), (1, .int a1), (2, .int a2)] [] H (F_11_layOnTape_3  n a0 a1 a2 H) := by
  induction n with
  | zero => intro _ _ _ _; exact s_none
  | succ n ih => intro a0 a1 a2 H; exact v_11_layOnTape_3 l (F_11_layOnTape_3  n) ih a0 a1 a2 H
theorem v_11_layOnTape (l : Launch) (a0 : Nat) (a1 : Int32) (H : jH) : JV l mi_11_layOnTape jeV 0 [(0, .ref a0), (1, .int a1)] [] H (F_11_layOnTape a0 a1 H) := by
  unfold F_11_layOnTape
  refine s_16 24 2 24 jbp_24 rfl ?_
  refine s_61 3 rfl rfl ?_
  exact s_jmp (w_11_layOnTape_3 l jfuel _ _ _ _) ⟨rfl, rfl, rfl, trivial⟩
theorem m_11_layOnTape (l : Launch) (a0 : Nat) (a1 : Int32) (H : jH) : JMet l y_11_layOnTape prog_1_method_11_code mi_11_layOnTape jeV [.ref a0, .int a1] H (F_11_layOnTape a0 a1 H) := jmet_of n_11_layOnTape (by decide) ⟨rfl, rfl⟩ (Nat.le_of_ble_eq_true rfl) (v_11_layOnTape l a0 a1 H)
def mi_11_feed : jM := (6164379025941351456606355464317374230336441235159735254362130201824948917548892573042719226815409937232938, 44, 6, "CoinNode", some FieldType.boolean, "feed", 1, 22)
def y_11_feed : MethodName := ⟨"CoinNode", "feed", "(IIIII)Z"⟩
theorem n_11_feed : jn_is prog_1_method_2_code mi_11_feed.1 mi_11_feed.2.1 := by unfold jn_is; decide +kernel
theorem k_11_feed : jmok y_11_feed prog_1_method_2_code mi_11_feed 5 := ⟨jw_630, jw_1, ⟨by decide, by decide⟩, by decide +kernel⟩
theorem v_11_feed (l : Launch) (a0 : Nat) (a1 : Int32) (a2 : Int32) (a3 : Int32) (a4 : Int32) (a5 : Int32) (H : jH) : JV l mi_11_feed jeI 0 [(0, .ref a0), (1, .int a1), (2, .int a2), (3, .int a3), (4, .int a4), (5, .int a5)] [] H (F_11_feed a0 a1 a2 a3 a4 a5 H) := by
  unfold F_11_feed
  refine s_42 1 rfl rfl ?_
  refine s_180I 0 72 4 72 f_11_1 jw_478 rfl rfl ?_
  refine s_16 20 6 20 jbp_20 rfl ?_
  refine s_96 7 rfl ?_
  refine s_17 7 208 10 2000 jsp_7_208 rfl ?_
  refine s_164 0 5 15 13 rfl rfl ?_ ?_
  · refine s_42 16 rfl rfl ?_
    refine s_27 17 rfl rfl ?_
    refine s_182V 0 76 20 76 (m_11_layOnTape l _ _ _) rfl k_11_layOnTape jc_11 jw_631 jw_633 jps_0 rfl rfl rfl rfl rfl (fun x1 h2 => ?_)
    refine s_42 21 rfl rfl ?_
    refine s_28 22 rfl rfl ?_
    refine s_182V 0 76 25 76 (m_11_layOnTape l _ _ _) rfl k_11_layOnTape jc_11 jw_631 jw_633 jps_0 rfl rfl rfl rfl rfl (fun x3 h4 => ?_)
    refine s_42 26 rfl rfl ?_
    refine s_29 27 rfl rfl ?_
    refine s_182V 0 76 30 76 (m_11_layOnTape l _ _ _) rfl k_11_layOnTape jc_11 jw_631 jw_633 jps_0 rfl rfl rfl rfl rfl (fun x5 h6 => ?_)
    refine s_42 31 rfl rfl ?_
    refine s_21 4 33 rfl rfl ?_
    refine s_182V 0 76 36 76 (m_11_layOnTape l _ _ _) rfl k_11_layOnTape jc_11 jw_631 jw_633 jps_0 rfl rfl rfl rfl rfl (fun x7 h8 => ?_)
    refine s_42 37 rfl rfl ?_
    refine s_21 5 39 rfl rfl ?_
    refine s_182V 0 76 42 76 (m_11_layOnTape l _ _ _) rfl k_11_layOnTape jc_11 jw_631 jw_633 jps_0 rfl rfl rfl rfl rfl (fun x9 h10 => ?_)
    refine s_4 43 rfl ?_
    exact s_172Z rfl rfl
  · refine s_3 14 rfl ?_
    exact s_172Z rfl rfl
theorem m_11_feed (l : Launch) (a0 : Nat) (a1 : Int32) (a2 : Int32) (a3 : Int32) (a4 : Int32) (a5 : Int32) (H : jH) : JMet l y_11_feed prog_1_method_2_code mi_11_feed jeI [.ref a0, .int a1, .int a2, .int a3, .int a4, .int a5] H (F_11_feed a0 a1 a2 a3 a4 a5 H) := jmet_of n_11_feed (by decide) ⟨rfl, rfl⟩ (Nat.le_of_ble_eq_true rfl) (v_11_feed l a0 a1 a2 a3 a4 a5 H)
def mi_11_begin : jM := (3608446880547412928809885199545386, 14, 2, "CoinNode", none, "begin", 0, 0)
def y_11_begin : MethodName := ⟨"CoinNode", "begin", "(I)V"⟩
theorem n_11_begin : jn_is prog_1_method_21_code mi_11_begin.1 mi_11_begin.2.1 := by unfold jn_is; decide +kernel
theorem k_11_begin : jmok y_11_begin prog_1_method_21_code mi_11_begin 1 := ⟨jw_786, jw_1, ⟨by decide, by decide⟩, by decide +kernel⟩
theorem v_11_begin (l : Launch) (a0 : Nat) (a1 : Int32) (H : jH) : JV l mi_11_begin jeV 0 [(0, .ref a0), (1, .int a1)] [] H (F_11_begin a0 a1 H) := by
  unfold F_11_begin
  refine s_42 1 rfl rfl ?_
  refine s_180R 0 28 4 28 f_11_7 jw_484 rfl rfl ?_
  refine s_3 5 rfl ?_
  refine s_27 6 rfl rfl ?_
  refine s_145 7 rfl ?_
  refine s_84B 8 rfl (fun h1 => ?_)
  refine s_42 9 rfl rfl ?_
  refine s_4 10 rfl ?_
  refine s_181I 0 233 13 233 f_11_8 rfl rfl jw_485 rfl rfl (fun h2 => ?_)
  exact s_177 rfl rfl
theorem m_11_begin (l : Launch) (a0 : Nat) (a1 : Int32) (H : jH) : JMet l y_11_begin prog_1_method_21_code mi_11_begin jeV [.ref a0, .int a1] H (F_11_begin a0 a1 H) := jmet_of n_11_begin (by decide) ⟨rfl, rfl⟩ (Nat.le_of_ble_eq_true rfl) (v_11_begin l a0 a1 H)
def mi_11_post : jM := (2088954006470833993513363589757896794080758455403169713759150152711802875899566446992804641193213077513740676716525929875123858185789231324859317135620200507818660019832388942694709809725651497865511069837490351428153192771170678141616318663720486870230220757272474227798527470518354299669021127854390931548318767899, 131, 5, "CoinNode", none, "post", 0, 0)
def y_11_post : MethodName := ⟨"CoinNode", "post", "(I)V"⟩
theorem n_11_post : jn_is prog_1_method_24_code mi_11_post.1 mi_11_post.2.1 := by unfold jn_is; decide +kernel
theorem k_11_post : jmok y_11_post prog_1_method_24_code mi_11_post 1 := ⟨jw_794, jw_1, ⟨by decide, by decide⟩, by decide +kernel⟩
theorem v_11_post_28 (l : Launch)   (H : jH) : JV l mi_11_post jeV 28 [] [] H (B_11_post_28   H) := by
  unfold B_11_post_28
  exact s_177 rfl rfl
theorem v_11_post_88 (l : Launch) (k46 : Nat → Int32 → Int32 → Int32 → jH → Option (Unit × jH)) (hk46 : ∀ a0 a1 a2 a3 H, JV l mi_11_post jeV 46 [(0, .ref a0), (1, .int a1), (2, .int a2), (3, .int a3)] [] H (k46 a0 a1 a2 a3 H)) (a0 : Nat) (a1 : Int32) (a2 : Int32) (a3 : Int32) (s0 : Int32) (H : jH) : JV l mi_11_post jeV 88 [(0, .ref a0), (1, .int a1), (2, .int a2), (3, .int a3)] [.int s0] H (B_11_post_88 k46 a0 a1 a2 a3 s0 H) := by
  unfold B_11_post_88
  refine s_54 4 90 rfl rfl ?_
  refine s_42 91 rfl rfl ?_
  refine s_180R 0 18 94 18 f_11_4 jw_481 rfl rfl ?_
  refine s_27 95 rfl rfl ?_
  refine s_50 96 110 jt_110 rfl ?_
  refine s_28 97 rfl rfl ?_
  refine s_5 98 rfl ?_
  refine s_96 99 rfl ?_
  refine s_29 100 rfl rfl ?_
  refine s_96 101 rfl ?_
  refine s_17 31 64 104 8000 jsp_31_64 rfl ?_
  refine s_112 105 rfl ?_
  refine s_21 4 107 rfl rfl ?_
  refine s_145 108 rfl ?_
  refine s_84B 109 rfl (fun h1 => ?_)
  refine s_132L 3 1 112 1 ji_1 rfl rfl rfl (fun x2 => ?_)
  refine s_167 255 190 46 rfl rfl ?_
  exact s_jmp (hk46 _ _ _ _ _) ⟨rfl, rfl, rfl, rfl, trivial⟩
theorem v_11_post_46 (l : Launch) (k46 : Nat → Int32 → Int32 → Int32 → jH → Option (Unit × jH)) (hk46 : ∀ a0 a1 a2 a3 H, JV l mi_11_post jeV 46 [(0, .ref a0), (1, .int a1), (2, .int a2), (3, .int a3)] [] H (k46 a0 a1 a2 a3 H)) (a0 : Nat) (a1 : Int32) (a2 : Int32) (a3 : Int32) (H : jH) : JV l mi_11_post jeV 46 [(0, .ref a0), (1, .int a1), (2, .int a2), (3, .int a3)] [] H (B_11_post_46 k46 a0 a1 a2 a3 H) := by
  unfold B_11_post_46
  refine s_29 47 rfl rfl ?_
  refine s_42 48 rfl rfl ?_
  refine s_180I 0 233 51 233 f_11_8 jw_485 rfl rfl ?_
  refine s_162 0 64 115 54 rfl rfl ?_ ?_
  · refine s_42 116 rfl rfl ?_
    refine s_180R 0 25 119 25 f_11_6 jw_483 rfl rfl ?_
    refine s_27 120 rfl rfl ?_
    refine s_92 121 rfl rfl rfl ?_
    refine s_46 122 rfl ?_
    refine s_5 123 rfl ?_
    refine s_42 124 rfl rfl ?_
    refine s_180I 0 233 127 233 f_11_8 jw_485 rfl rfl ?_
    refine s_96 128 rfl ?_
    refine s_96 129 rfl ?_
    refine s_79 130 rfl (fun h3 => ?_)
    exact s_177 rfl rfl
  · refine s_29 55 rfl rfl ?_
    refine s_16 254 57 (-2) jbp_254 rfl ?_
    refine s_160 0 13 70 60 rfl rfl ?_ ?_
    · refine s_29 71 rfl rfl ?_
      refine s_2 72 rfl ?_
      refine s_160 0 10 82 75 rfl rfl ?_ ?_
      · refine s_42 83 rfl rfl ?_
        refine s_180R 0 28 86 28 f_11_7 jw_484 rfl rfl ?_
        refine s_29 87 rfl rfl ?_
        refine s_51B 88 rfl ?_
        exact s_jmp (v_11_post_88 l k46 hk46 _ _ _ _ _ _) ⟨rfl, rfl, rfl, rfl, trivial⟩
      · refine s_42 76 rfl rfl ?_
        refine s_180I 0 233 79 233 f_11_8 jw_485 rfl rfl ?_
        refine s_167 0 9 88 rfl rfl ?_
        exact s_jmp (v_11_post_88 l k46 hk46 _ _ _ _ _ _) ⟨rfl, rfl, rfl, rfl, trivial⟩
    · refine s_42 61 rfl rfl ?_
      refine s_180I 0 233 64 233 f_11_8 jw_485 rfl rfl ?_
      refine s_16 8 66 8 jbp_8 rfl ?_
      refine s_122 67 rfl ?_
      refine s_167 0 21 88 rfl rfl ?_
      exact s_jmp (v_11_post_88 l k46 hk46 _ _ _ _ _ _) ⟨rfl, rfl, rfl, rfl, trivial⟩
theorem w_11_post_46 (l : Launch)  (n : Nat) : ∀ a0 a1 a2 a3 H, JV l mi_11_post jeV 46 [(0, .ref a0), (1, .int a1), (2, .int a2), (3, .int a3)] [] H (F_11_post_46  n a0 a1 a2 a3 H) := by
  induction n with
  | zero => intro _ _ _ _ _; exact s_none
  | succ n ih => intro a0 a1 a2 a3 H; exact v_11_post_46 l (F_11_post_46  n) ih a0 a1 a2 a3 H
theorem v_11_post (l : Launch) (a0 : Nat) (a1 : Int32) (H : jH) : JV l mi_11_post jeV 0 [(0, .ref a0), (1, .int a1)] [] H (F_11_post a0 a1 H) := by
  unfold F_11_post
  refine s_27 1 rfl rfl ?_
  refine s_155 0 27 28 4 rfl rfl ?_ ?_
  · exact s_jmp (v_11_post_28 l _) trivial
  · refine s_27 5 rfl rfl ?_
    refine s_7 6 rfl ?_
    refine s_162 0 22 28 9 rfl rfl ?_ ?_
    · exact s_jmp (v_11_post_28 l _) trivial
    · refine s_42 10 rfl rfl ?_
      refine s_180R 0 25 13 25 f_11_6 jw_483 rfl rfl ?_
      refine s_27 14 rfl rfl ?_
      refine s_46 15 rfl ?_
      refine s_5 16 rfl ?_
      refine s_96 17 rfl ?_
      refine s_42 18 rfl rfl ?_
      refine s_180I 0 233 21 233 f_11_8 jw_485 rfl rfl ?_
      refine s_96 22 rfl ?_
      refine s_17 31 64 25 8000 jsp_31_64 rfl ?_
      refine s_164 0 4 29 28 rfl rfl ?_ ?_
      · refine s_42 30 rfl rfl ?_
        refine s_180R 0 21 33 21 f_11_5 jw_482 rfl rfl ?_
        refine s_27 34 rfl rfl ?_
        refine s_46 35 rfl ?_
        refine s_42 36 rfl rfl ?_
        refine s_180R 0 25 39 25 f_11_6 jw_483 rfl rfl ?_
        refine s_27 40 rfl rfl ?_
        refine s_46 41 rfl ?_
        refine s_96 42 rfl ?_
        refine s_61L 43 rfl rfl (fun x4 => ?_)
        refine s_16 254 45 (-2) jbp_254 rfl ?_
        refine s_62 46 rfl rfl ?_
        exact s_jmp (w_11_post_46 l jfuel _ _ _ _ _) ⟨rfl, rfl, rfl, rfl, trivial⟩
      · exact s_jmp (v_11_post_28 l _) trivial
theorem m_11_post (l : Launch) (a0 : Nat) (a1 : Int32) (H : jH) : JMet l y_11_post prog_1_method_24_code mi_11_post jeV [.ref a0, .int a1] H (F_11_post a0 a1 H) := jmet_of n_11_post (by decide) ⟨rfl, rfl⟩ (Nat.le_of_ble_eq_true rfl) (v_11_post l a0 a1 H)
def mi_11_put : jM := (5273751024775584872586434214732918690526064711816802025772156100457477862525547562, 34, 2, "CoinNode", none, "put", 0, 0)
def y_11_put : MethodName := ⟨"CoinNode", "put", "(I)V"⟩
theorem n_11_put : jn_is prog_1_method_22_code mi_11_put.1 mi_11_put.2.1 := by unfold jn_is; decide +kernel
theorem k_11_put : jmok y_11_put prog_1_method_22_code mi_11_put 1 := ⟨jw_790, jw_1, ⟨by decide, by decide⟩, by decide +kernel⟩
theorem v_11_put_33 (l : Launch)   (H : jH) : JV l mi_11_put jeV 33 [] [] H (B_11_put_33   H) := by
  unfold B_11_put_33
  exact s_177 rfl rfl
theorem v_11_put (l : Launch) (a0 : Nat) (a1 : Int32) (H : jH) : JV l mi_11_put jeV 0 [(0, .ref a0), (1, .int a1)] [] H (F_11_put a0 a1 H) := by
  unfold F_11_put
  refine s_42 1 rfl rfl ?_
  refine s_180I 0 233 4 233 f_11_8 jw_485 rfl rfl ?_
  refine s_42 5 rfl rfl ?_
  refine s_180R 0 28 8 28 f_11_7 jw_484 rfl rfl ?_
  refine s_190 9 101 jm_101 rfl ?_
  refine s_162 0 24 33 12 rfl rfl ?_ ?_
  · exact s_jmp (v_11_put_33 l _) trivial
  · refine s_42 13 rfl rfl ?_
    refine s_180R 0 28 16 28 f_11_7 jw_484 rfl rfl ?_
    refine s_42 17 rfl rfl ?_
    refine s_180I 0 233 20 233 f_11_8 jw_485 rfl rfl ?_
    refine s_27 21 rfl rfl ?_
    refine s_145 22 rfl ?_
    refine s_84B 23 rfl (fun h1 => ?_)
    refine s_42 24 rfl rfl ?_
    refine s_89 25 rfl rfl ?_
    refine s_180I 0 233 28 233 f_11_8 jw_485 rfl rfl ?_
    refine s_4 29 rfl ?_
    refine s_96 30 rfl ?_
    refine s_181I 0 233 33 233 f_11_8 rfl rfl jw_485 rfl rfl (fun h2 => ?_)
    exact s_jmp (v_11_put_33 l _) trivial
theorem m_11_put (l : Launch) (a0 : Nat) (a1 : Int32) (H : jH) : JMet l y_11_put prog_1_method_22_code mi_11_put jeV [.ref a0, .int a1] H (F_11_put a0 a1 H) := jmet_of n_11_put (by decide) ⟨rfl, rfl⟩ (Nat.le_of_ble_eq_true rfl) (v_11_put l a0 a1 H)
def mi_11_answerVerdict : jM := (504847728723396892614462323516563908094932901183399437876825694587217506264923378831470661951464637692679875631918547650216581420027946, 56, 5, "CoinNode", none, "answerVerdict", 1, 24)
def y_11_answerVerdict : MethodName := ⟨"CoinNode", "answerVerdict", "(II[B)V"⟩
theorem n_11_answerVerdict : jn_is prog_1_method_14_code mi_11_answerVerdict.1 mi_11_answerVerdict.2.1 := by unfold jn_is; decide +kernel
theorem k_11_answerVerdict : jmok y_11_answerVerdict prog_1_method_14_code mi_11_answerVerdict 3 := ⟨jw_782, jw_1, ⟨by decide, by decide⟩, by decide +kernel⟩
theorem v_11_answerVerdict_41 (l : Launch) (k14 : Nat → Int32 → Nat → Int32 → jH → Option (Unit × jH)) (hk14 : ∀ a0 a1 a3 a4 H, JV l mi_11_answerVerdict jeV 14 [(0, .ref a0), (1, .int a1), (3, .ref a3), (4, .int a4)] [] H (k14 a0 a1 a3 a4 H)) (a0 : Nat) (a1 : Int32) (a3 : Nat) (a4 : Int32) (s0 : Nat) (s1 : Int32) (H : jH) : JV l mi_11_answerVerdict jeV 41 [(0, .ref a0), (1, .int a1), (3, .ref a3), (4, .int a4)] [.int s1, .ref s0] H (B_11_answerVerdict_41 k14 a0 a1 a3 a4 s0 s1 H) := by
  unfold B_11_answerVerdict_41
  refine s_182V 0 205 44 205 (m_11_put l _ _ _) rfl k_11_put jc_11 jw_787 jw_789 jps_7 rfl rfl rfl rfl rfl (fun x1 h2 => ?_)
  refine s_132L 4 1 47 1 ji_1 rfl rfl rfl (fun x3 => ?_)
  refine s_167 255 223 14 rfl rfl ?_
  exact s_jmp (hk14 _ _ _ _ _) ⟨rfl, rfl, rfl, rfl, trivial⟩
theorem v_11_answerVerdict_33 (l : Launch) (k14 : Nat → Int32 → Nat → Int32 → jH → Option (Unit × jH)) (hk14 : ∀ a0 a1 a3 a4 H, JV l mi_11_answerVerdict jeV 14 [(0, .ref a0), (1, .int a1), (3, .ref a3), (4, .int a4)] [] H (k14 a0 a1 a3 a4 H)) (a0 : Nat) (a1 : Int32) (a3 : Nat) (a4 : Int32) (s0 : Nat) (H : jH) : JV l mi_11_answerVerdict jeV 33 [(0, .ref a0), (1, .int a1), (3, .ref a3), (4, .int a4)] [.ref s0] H (B_11_answerVerdict_33 k14 a0 a1 a3 a4 s0 H) := by
  unfold B_11_answerVerdict_33
  refine s_3 34 rfl ?_
  refine s_167 0 7 41 rfl rfl ?_
  exact s_jmp (v_11_answerVerdict_41 l k14 hk14 _ _ _ _ _ _ _) ⟨rfl, rfl, rfl, rfl, trivial⟩
theorem v_11_answerVerdict_14 (l : Launch) (k14 : Nat → Int32 → Nat → Int32 → jH → Option (Unit × jH)) (hk14 : ∀ a0 a1 a3 a4 H, JV l mi_11_answerVerdict jeV 14 [(0, .ref a0), (1, .int a1), (3, .ref a3), (4, .int a4)] [] H (k14 a0 a1 a3 a4 H)) (a0 : Nat) (a1 : Int32) (a3 : Nat) (a4 : Int32) (H : jH) : JV l mi_11_answerVerdict jeV 14 [(0, .ref a0), (1, .int a1), (3, .ref a3), (4, .int a4)] [] H (B_11_answerVerdict_14 k14 a0 a1 a3 a4 H) := by
  unfold B_11_answerVerdict_14
  refine s_21 4 16 rfl rfl ?_
  refine s_16 32 18 32 jbp_32 rfl ?_
  refine s_162 0 32 50 21 rfl rfl ?_ ?_
  · refine s_42 51 rfl rfl ?_
    refine s_27 52 rfl rfl ?_
    refine s_182V 0 208 55 208 (m_11_post l _ _ _) rfl k_11_post jc_11 jw_791 jw_793 jps_8 rfl rfl rfl rfl rfl (fun x4 h5 => ?_)
    exact s_177 rfl rfl
  · refine s_42 22 rfl rfl ?_
    refine s_45 23 rfl rfl ?_
    refine s_198 0 10 33 26 rfl rfl ?_ ?_
    · exact s_jmp (v_11_answerVerdict_33 l k14 hk14 _ _ _ _ _ _) ⟨rfl, rfl, rfl, rfl, trivial⟩
    · refine s_21 4 28 rfl rfl ?_
      refine s_45 29 rfl rfl ?_
      refine s_190 30 101 jm_101 rfl ?_
      refine s_161 0 7 37 33 rfl rfl ?_ ?_
      · refine s_45 38 rfl rfl ?_
        refine s_21 4 40 rfl rfl ?_
        refine s_51B 41 rfl ?_
        exact s_jmp (v_11_answerVerdict_41 l k14 hk14 _ _ _ _ _ _ _) ⟨rfl, rfl, rfl, rfl, trivial⟩
      · exact s_jmp (v_11_answerVerdict_33 l k14 hk14 _ _ _ _ _ _) ⟨rfl, rfl, rfl, rfl, trivial⟩
theorem w_11_answerVerdict_14 (l : Launch)  (n : Nat) : ∀ a0 a1 a3 a4 H, JV l mi_11_answerVerdict jeV 14 [(0, .ref a0), (1, .int a1), (3, .ref a3), (4, .int a4)] [] H (F_11_answerVerdict_14  n a0 a1 a3 a4 H) := by
  induction n with
  | zero => intro _ _ _ _ _; exact s_none
  | succ n ih => intro a0 a1 a3 a4 H; exact v_11_answerVerdict_14 l (F_11_answerVerdict_14  n) ih a0 a1 a3 a4 H
theorem v_11_answerVerdict (l : Launch) (a0 : Nat) (a1 : Int32) (a2 : Int32) (a3 : Nat) (H : jH) : JV l mi_11_answerVerdict jeV 0 [(0, .ref a0), (1, .int a1), (2, .int a2), (3, .ref a3)] [] H (F_11_answerVerdict a0 a1 a2 a3 H) := by
  unfold F_11_answerVerdict
  refine s_42 1 rfl rfl ?_
  refine s_16 8 3 8 jbp_8 rfl ?_
  refine s_182V 0 202 6 202 (m_11_begin l _ _ _) rfl k_11_begin jc_11 jw_783 jw_785 jps_6 rfl rfl rfl rfl rfl (fun x6 h7 => ?_)
  refine s_42 7 rfl rfl ?_
  refine s_28 8 rfl rfl ?_
  refine s_182V 0 205 11 205 (m_11_put l _ _ _) rfl k_11_put jc_11 jw_787 jw_789 jps_7 rfl rfl rfl rfl rfl (fun x8 h9 => ?_)
  refine s_3 12 rfl ?_
  refine s_54 4 14 rfl rfl ?_
  exact s_jmp (w_11_answerVerdict_14 l jfuel _ _ _ _ _) ⟨rfl, rfl, rfl, rfl, trivial⟩
theorem m_11_answerVerdict (l : Launch) (a0 : Nat) (a1 : Int32) (a2 : Int32) (a3 : Nat) (H : jH) : JMet l y_11_answerVerdict prog_1_method_14_code mi_11_answerVerdict jeV [.ref a0, .int a1, .int a2, .ref a3] H (F_11_answerVerdict a0 a1 a2 a3 H) := jmet_of n_11_answerVerdict (by decide) ⟨rfl, rfl⟩ (Nat.le_of_ble_eq_true rfl) (v_11_answerVerdict l a0 a1 a2 a3 H)
def mi_11_put_2 : jM := (505124995569158029511906711094437377973661671549802637444856764356511911629905626851723633631475041786436664126574196666339504804633372, 56, 4, "CoinNode", none, "put", 1, 60)
def y_11_put_2 : MethodName := ⟨"CoinNode", "put", "([BII)V"⟩
theorem n_11_put_2 : jn_is prog_1_method_23_code mi_11_put_2.1 mi_11_put_2.2.1 := by unfold jn_is; decide +kernel
theorem k_11_put_2 : jmok y_11_put_2 prog_1_method_23_code mi_11_put_2 3 := ⟨jw_1199, jw_1, ⟨by decide, by decide⟩, by decide +kernel⟩
theorem v_11_put_2_30 (l : Launch)   (H : jH) : JV l mi_11_put_2 jeV 30 [] [] H (B_11_put_2_30   H) := by
  unfold B_11_put_2_30
  exact s_177 rfl rfl
theorem v_11_put_2 (l : Launch) (a0 : Nat) (a1 : Nat) (a2 : Int32) (a3 : Int32) (H : jH) : JV l mi_11_put_2 jeV 0 [(0, .ref a0), (1, .ref a1), (2, .int a2), (3, .int a3)] [] H (F_11_put_2 a0 a1 a2 a3 H) := by
  unfold F_11_put_2
  refine s_28 1 rfl rfl ?_
  refine s_155 0 29 30 4 rfl rfl ?_ ?_
  · exact s_jmp (v_11_put_2_30 l _) trivial
  · refine s_29 5 rfl rfl ?_
    refine s_155 0 25 30 8 rfl rfl ?_ ?_
    · exact s_jmp (v_11_put_2_30 l _) trivial
    · refine s_28 9 rfl rfl ?_
      refine s_29 10 rfl rfl ?_
      refine s_96 11 rfl ?_
      refine s_43 12 rfl rfl ?_
      refine s_190 13 101 jm_101 rfl ?_
      refine s_163 0 17 30 16 rfl rfl ?_ ?_
      · exact s_jmp (v_11_put_2_30 l _) trivial
      · refine s_42 17 rfl rfl ?_
        refine s_180I 0 233 20 233 f_11_8 jw_485 rfl rfl ?_
        refine s_29 21 rfl rfl ?_
        refine s_96 22 rfl ?_
        refine s_42 23 rfl rfl ?_
        refine s_180R 0 28 26 28 f_11_7 jw_484 rfl rfl ?_
        refine s_190 27 101 jm_101 rfl ?_
        refine s_164 0 4 31 30 rfl rfl ?_ ?_
        · refine s_43 32 rfl rfl ?_
          refine s_28 33 rfl rfl ?_
          refine s_42 34 rfl rfl ?_
          refine s_180R 0 28 37 28 f_11_7 jw_484 rfl rfl ?_
          refine s_42 38 rfl rfl ?_
          refine s_180I 0 233 41 233 f_11_8 jw_485 rfl rfl ?_
          refine s_29 42 rfl rfl ?_
          refine s_acB 0 236 45 236 jw_1200 jw_372 jw_371 jw_12 rfl rfl rfl rfl (fun h1 => ?_)
          refine s_42 46 rfl rfl ?_
          refine s_89 47 rfl rfl ?_
          refine s_180I 0 233 50 233 f_11_8 jw_485 rfl rfl ?_
          refine s_29 51 rfl rfl ?_
          refine s_96 52 rfl ?_
          refine s_181I 0 233 55 233 f_11_8 rfl rfl jw_485 rfl rfl (fun h2 => ?_)
          exact s_177 rfl rfl
        · exact s_jmp (v_11_put_2_30 l _) trivial
theorem m_11_put_2 (l : Launch) (a0 : Nat) (a1 : Nat) (a2 : Int32) (a3 : Int32) (H : jH) : JMet l y_11_put_2 prog_1_method_23_code mi_11_put_2 jeV [.ref a0, .ref a1, .int a2, .int a3] H (F_11_put_2 a0 a1 a2 a3 H) := jmet_of n_11_put_2 (by decide) ⟨rfl, rfl⟩ (Nat.le_of_ble_eq_true rfl) (v_11_put_2 l a0 a1 a2 a3 H)
def mi_1_at : jM := (20402071170416224130548372196048027230808995070681249337586237076841271337720603, 33, 2, "CoinNode$Chain", some (FieldType.object "CoinNode$Block"), "at", 0, 0)
def y_1_at : MethodName := ⟨"CoinNode$Chain", "at", "(I)LCoinNode$Block;"⟩
theorem n_1_at : jn_is prog_3_method_2_code mi_1_at.1 mi_1_at.2.1 := by unfold jn_is; decide +kernel
theorem k_1_at : jmok y_1_at prog_3_method_2_code mi_1_at 1 := ⟨jw_1289, jw_9, ⟨by decide, by decide⟩, by decide +kernel⟩
theorem v_1_at_32 (l : Launch)  (s0 : Nat) (H : jH) : JV l mi_1_at jeR 32 [] [.ref s0] H (B_1_at_32  s0 H) := by
  unfold B_1_at_32
  exact s_176 rfl rfl rfl
theorem v_1_at_22 (l : Launch)   (H : jH) : JV l mi_1_at jeR 22 [] [] H (B_1_at_22   H) := by
  unfold B_1_at_22
  refine s_1 23 rfl ?_
  refine s_167 0 9 32 rfl rfl ?_
  exact s_jmp (v_1_at_32 l _ _) trivial
theorem v_1_at (l : Launch) (a0 : Nat) (a1 : Int32) (H : jH) : JV l mi_1_at jeR 0 [(0, .ref a0), (1, .int a1)] [] H (F_1_at a0 a1 H) := by
  unfold F_1_at
  refine s_27 1 rfl rfl ?_
  refine s_155 0 21 22 4 rfl rfl ?_ ?_
  · exact s_jmp (v_1_at_22 l _) trivial
  · refine s_27 5 rfl rfl ?_
    refine s_42 6 rfl rfl ?_
    refine s_180R 0 74 9 74 f_1_6 jw_389 rfl rfl ?_
    refine s_180I 0 78 12 78 f_0_6 jw_337 rfl rfl ?_
    refine s_163 0 10 22 15 rfl rfl ?_ ?_
    · exact s_jmp (v_1_at_22 l _) trivial
    · refine s_27 16 rfl rfl ?_
      refine s_17 1 44 19 300 jsp_1_44 rfl ?_
      refine s_161 0 7 26 22 rfl rfl ?_ ?_
      · refine s_42 27 rfl rfl ?_
        refine s_180R 0 17 30 17 f_1_7 jw_391 rfl rfl ?_
        refine s_27 31 rfl rfl ?_
        refine s_50 32 114 jt_114 rfl ?_
        exact s_jmp (v_1_at_32 l _ _) trivial
      · exact s_jmp (v_1_at_22 l _) trivial
theorem m_1_at (l : Launch) (a0 : Nat) (a1 : Int32) (H : jH) : JMet l y_1_at prog_3_method_2_code mi_1_at jeR [.ref a0, .int a1] H (F_1_at a0 a1 H) := jmet_of n_1_at (by decide) ⟨rfl, rfl⟩ (Nat.le_of_ble_eq_true rfl) (v_1_at l a0 a1 H)
def mi_11_askWhatIsBehind : jM := (1576007665272581170348019665612319509383222756897465144094260364363532468574759873780595620113668659568113795797912740081052582478234006641031550644257461233270709038915146446271017964261948356202817265768307814459093882983834740509772962831315889895259173876749137375178318546474, 116, 7, "CoinNode", none, "askWhatIsBehind", 2, 83)
def y_11_askWhatIsBehind : MethodName := ⟨"CoinNode", "askWhatIsBehind", "(I)V"⟩
theorem n_11_askWhatIsBehind : jn_is prog_1_method_16_code mi_11_askWhatIsBehind.1 mi_11_askWhatIsBehind.2.1 := by unfold jn_is; decide +kernel
theorem k_11_askWhatIsBehind : jmok y_11_askWhatIsBehind prog_1_method_16_code mi_11_askWhatIsBehind 1 := ⟨jw_1350, jw_1, ⟨by decide, by decide⟩, by decide +kernel⟩
theorem v_11_askWhatIsBehind_87 (l : Launch) (k29 : Nat → Int32 → Int32 → Int32 → Int32 → Int32 → jH → Option (Unit × jH)) (hk29 : ∀ a0 a1 a2 a3 a4 a5 H, JV l mi_11_askWhatIsBehind jeV 29 [(0, .ref a0), (1, .int a1), (2, .int a2), (3, .int a3), (4, .int a4), (5, .int a5)] [] H (k29 a0 a1 a2 a3 a4 a5 H)) (a0 : Nat) (a1 : Int32) (a2 : Int32) (a3 : Int32) (a4 : Int32) (a5 : Int32) (H : jH) : JV l mi_11_askWhatIsBehind jeV 87 [(0, .ref a0), (1, .int a1), (2, .int a2), (3, .int a3), (4, .int a4), (5, .int a5)] [] H (B_11_askWhatIsBehind_87 k29 a0 a1 a2 a3 a4 a5 H) := by
  unfold B_11_askWhatIsBehind_87
  refine s_3 88 rfl ?_
  refine s_28 89 rfl rfl ?_
  refine s_29 90 rfl rfl ?_
  refine s_100 91 rfl ?_
  refine s_maxI 0 214 94 214 jw_1352 jw_906 jw_15 jw_907 rfl rfl rfl ?_
  refine s_61L 95 rfl rfl (fun x1 => ?_)
  refine s_132L 5 1 98 1 ji_1 rfl rfl rfl (fun x2 => ?_)
  refine s_167 255 187 29 rfl rfl ?_
  exact s_jmp (hk29 _ _ _ _ _ _ _) ⟨rfl, rfl, rfl, rfl, rfl, rfl, trivial⟩
theorem v_11_askWhatIsBehind_101 (l : Launch)  (a0 : Nat) (a1 : Int32) (a4 : Int32) (H : jH) : JV l mi_11_askWhatIsBehind jeV 101 [(0, .ref a0), (1, .int a1), (4, .int a4)] [] H (B_11_askWhatIsBehind_101  a0 a1 a4 H) := by
  unfold B_11_askWhatIsBehind_101
  refine s_42 102 rfl rfl ?_
  refine s_180R 0 28 105 28 f_11_7 jw_484 rfl rfl ?_
  refine s_4 106 rfl ?_
  refine s_21 4 108 rfl rfl ?_
  refine s_145 109 rfl ?_
  refine s_84B 110 rfl (fun h3 => ?_)
  refine s_42 111 rfl rfl ?_
  refine s_27 112 rfl rfl ?_
  refine s_182V 0 208 115 208 (m_11_post l _ _ _) rfl k_11_post jc_11 jw_791 jw_793 jps_8 rfl rfl rfl rfl rfl (fun x4 h5 => ?_)
  exact s_177 rfl rfl
theorem v_11_askWhatIsBehind_29 (l : Launch) (k29 : Nat → Int32 → Int32 → Int32 → Int32 → Int32 → jH → Option (Unit × jH)) (hk29 : ∀ a0 a1 a2 a3 a4 a5 H, JV l mi_11_askWhatIsBehind jeV 29 [(0, .ref a0), (1, .int a1), (2, .int a2), (3, .int a3), (4, .int a4), (5, .int a5)] [] H (k29 a0 a1 a2 a3 a4 a5 H)) (a0 : Nat) (a1 : Int32) (a2 : Int32) (a3 : Int32) (a4 : Int32) (a5 : Int32) (H : jH) : JV l mi_11_askWhatIsBehind jeV 29 [(0, .ref a0), (1, .int a1), (2, .int a2), (3, .int a3), (4, .int a4), (5, .int a5)] [] H (B_11_askWhatIsBehind_29 k29 a0 a1 a2 a3 a4 a5 H) := by
  unfold B_11_askWhatIsBehind_29
  refine s_21 5 31 rfl rfl ?_
  refine s_16 20 33 20 jbp_20 rfl ?_
  refine s_162 0 68 101 36 rfl rfl ?_ ?_
  · exact s_jmp (v_11_askWhatIsBehind_101 l _ _ _ _) ⟨rfl, rfl, rfl, trivial⟩
  · refine s_42 37 rfl rfl ?_
    refine s_180R 0 59 40 59 f_11_12 jw_489 rfl rfl ?_
    refine s_28 41 rfl rfl ?_
    refine s_182R 0 144 44 144 (m_1_at l _ _ _) rfl k_1_at jc_1 jw_1351 jw_1287 jw_1288 rfl rfl rfl rfl rfl (fun x6 h7 => ?_)
    refine s_58 6 46 rfl rfl ?_
    refine s_25 6 48 rfl rfl ?_
    refine s_199 0 6 54 51 rfl rfl ?_ ?_
    · refine s_42 55 rfl rfl ?_
      refine s_25 6 57 rfl rfl ?_
      refine s_180R 0 148 60 148 f_0_1 jw_328 rfl rfl ?_
      refine s_3 61 rfl ?_
      refine s_16 32 63 32 jbp_32 rfl ?_
      refine s_182V 0 211 66 211 (m_11_put_2 l _ _ _ _ _) rfl k_11_put_2 jc_11 jw_1196 jw_1198 jps_33 rfl rfl rfl rfl rfl (fun x8 h9 => ?_)
      refine s_132L 4 1 69 1 ji_1 rfl rfl rfl (fun x10 => ?_)
      refine s_28 70 rfl rfl ?_
      refine s_154 0 6 76 73 rfl rfl ?_ ?_
      · refine s_21 4 78 rfl rfl ?_
        refine s_16 9 80 9 jbp_9 rfl ?_
        refine s_164 0 7 87 83 rfl rfl ?_ ?_
        · exact s_jmp (v_11_askWhatIsBehind_87 l k29 hk29 _ _ _ _ _ _ _) ⟨rfl, rfl, rfl, rfl, rfl, rfl, trivial⟩
        · refine s_29 84 rfl rfl ?_
          refine s_5 85 rfl ?_
          refine s_104 86 rfl ?_
          refine s_62L 87 rfl rfl (fun x11 => ?_)
          exact s_jmp (v_11_askWhatIsBehind_87 l k29 hk29 _ _ _ _ _ _ _) ⟨rfl, rfl, rfl, rfl, rfl, rfl, trivial⟩
      · refine s_167 0 28 101 rfl rfl ?_
        exact s_jmp (v_11_askWhatIsBehind_101 l _ _ _ _) ⟨rfl, rfl, rfl, trivial⟩
    · refine s_167 0 50 101 rfl rfl ?_
      exact s_jmp (v_11_askWhatIsBehind_101 l _ _ _ _) ⟨rfl, rfl, rfl, trivial⟩
theorem w_11_askWhatIsBehind_29 (l : Launch)  (n : Nat) : ∀ a0 a1 a2 a3 a4 a5 H, JV l mi_11_askWhatIsBehind jeV 29 [(0, .ref a0), (1, .int a1), (2, .int a2), (3, .int a3), (4, .int a4), (5, .int a5)] [] H (F_11_askWhatIsBehind_29  n a0 a1 a2 a3 a4 a5 H) := by
  induction n with
  | zero => intro _ _ _ _ _ _ _; exact s_none
  | succ n ih => intro a0 a1 a2 a3 a4 a5 H; exact v_11_askWhatIsBehind_29 l (F_11_askWhatIsBehind_29  n) ih a0 a1 a2 a3 a4 a5 H
theorem v_11_askWhatIsBehind (l : Launch) (a0 : Nat) (a1 : Int32) (H : jH) : JV l mi_11_askWhatIsBehind jeV 0 [(0, .ref a0), (1, .int a1)] [] H (F_11_askWhatIsBehind a0 a1 H) := by
  unfold F_11_askWhatIsBehind
  refine s_42 1 rfl rfl ?_
  refine s_6 2 rfl ?_
  refine s_182V 0 202 5 202 (m_11_begin l _ _ _) rfl k_11_begin jc_11 jw_783 jw_785 jps_6 rfl rfl rfl rfl rfl (fun x12 h13 => ?_)
  refine s_42 6 rfl rfl ?_
  refine s_3 7 rfl ?_
  refine s_182V 0 205 10 205 (m_11_put l _ _ _) rfl k_11_put jc_11 jw_787 jw_789 jps_7 rfl rfl rfl rfl rfl (fun x14 h15 => ?_)
  refine s_42 11 rfl rfl ?_
  refine s_180R 0 59 14 59 f_11_12 jw_489 rfl rfl ?_
  refine s_180R 0 90 17 90 f_1_6 jw_390 rfl rfl ?_
  refine s_180I 0 114 20 114 f_0_6 jw_338 rfl rfl ?_
  refine s_61L 21 rfl rfl (fun x16 => ?_)
  refine s_4 22 rfl ?_
  refine s_62 23 rfl rfl ?_
  refine s_3 24 rfl ?_
  refine s_54 4 26 rfl rfl ?_
  refine s_3 27 rfl ?_
  refine s_54 5 29 rfl rfl ?_
  exact s_jmp (w_11_askWhatIsBehind_29 l jfuel _ _ _ _ _ _ _) ⟨rfl, rfl, rfl, rfl, rfl, rfl, trivial⟩
theorem m_11_askWhatIsBehind (l : Launch) (a0 : Nat) (a1 : Int32) (H : jH) : JMet l y_11_askWhatIsBehind prog_1_method_16_code mi_11_askWhatIsBehind jeV [.ref a0, .int a1] H (F_11_askWhatIsBehind a0 a1 H) := jmet_of n_11_askWhatIsBehind (by decide) ⟨rfl, rfl⟩ (Nat.le_of_ble_eq_true rfl) (v_11_askWhatIsBehind l a0 a1 H)
def mi_11_tellOthers : jM := (117616313940480591872685836871831972684986241269561059866052764500082724983856591466257094372331290649682421609684929761120298, 52, 5, "CoinNode", none, "tellOthers", 2, 83)
def y_11_tellOthers : MethodName := ⟨"CoinNode", "tellOthers", "(II[B)V"⟩
theorem n_11_tellOthers : jn_is prog_1_method_15_code mi_11_tellOthers.1 mi_11_tellOthers.2.1 := by unfold jn_is; decide +kernel
theorem k_11_tellOthers : jmok y_11_tellOthers prog_1_method_15_code mi_11_tellOthers 3 := ⟨jw_1195, jw_1, ⟨by decide, by decide⟩, by decide +kernel⟩
theorem v_11_tellOthers_45 (l : Launch) (k27 : Nat → Int32 → Int32 → jH → Option (Unit × jH)) (hk27 : ∀ a0 a1 a4 H, JV l mi_11_tellOthers jeV 27 [(0, .ref a0), (1, .int a1), (4, .int a4)] [] H (k27 a0 a1 a4 H)) (a0 : Nat) (a1 : Int32) (a4 : Int32) (H : jH) : JV l mi_11_tellOthers jeV 45 [(0, .ref a0), (1, .int a1), (4, .int a4)] [] H (B_11_tellOthers_45 k27 a0 a1 a4 H) := by
  unfold B_11_tellOthers_45
  refine s_132L 4 1 48 1 ji_1 rfl rfl rfl (fun x1 => ?_)
  refine s_167 255 235 27 rfl rfl ?_
  exact s_jmp (hk27 _ _ _ _) ⟨rfl, rfl, rfl, trivial⟩
theorem v_11_tellOthers_27 (l : Launch) (k27 : Nat → Int32 → Int32 → jH → Option (Unit × jH)) (hk27 : ∀ a0 a1 a4 H, JV l mi_11_tellOthers jeV 27 [(0, .ref a0), (1, .int a1), (4, .int a4)] [] H (k27 a0 a1 a4 H)) (a0 : Nat) (a1 : Int32) (a4 : Int32) (H : jH) : JV l mi_11_tellOthers jeV 27 [(0, .ref a0), (1, .int a1), (4, .int a4)] [] H (B_11_tellOthers_27 k27 a0 a1 a4 H) := by
  unfold B_11_tellOthers_27
  refine s_21 4 29 rfl rfl ?_
  refine s_7 30 rfl ?_
  refine s_162 0 21 51 33 rfl rfl ?_ ?_
  · exact s_177 rfl rfl
  · refine s_21 4 35 rfl rfl ?_
    refine s_27 36 rfl rfl ?_
    refine s_159 0 9 45 39 rfl rfl ?_ ?_
    · exact s_jmp (v_11_tellOthers_45 l k27 hk27 _ _ _ _) ⟨rfl, rfl, rfl, trivial⟩
    · refine s_42 40 rfl rfl ?_
      refine s_21 4 42 rfl rfl ?_
      refine s_182V 0 208 45 208 (m_11_post l _ _ _) rfl k_11_post jc_11 jw_791 jw_793 jps_8 rfl rfl rfl rfl rfl (fun x2 h3 => ?_)
      exact s_jmp (v_11_tellOthers_45 l k27 hk27 _ _ _ _) ⟨rfl, rfl, rfl, trivial⟩
theorem w_11_tellOthers_27 (l : Launch)  (n : Nat) : ∀ a0 a1 a4 H, JV l mi_11_tellOthers jeV 27 [(0, .ref a0), (1, .int a1), (4, .int a4)] [] H (F_11_tellOthers_27  n a0 a1 a4 H) := by
  induction n with
  | zero => intro _ _ _ _; exact s_none
  | succ n ih => intro a0 a1 a4 H; exact v_11_tellOthers_27 l (F_11_tellOthers_27  n) ih a0 a1 a4 H
theorem v_11_tellOthers (l : Launch) (a0 : Nat) (a1 : Int32) (a2 : Int32) (a3 : Nat) (H : jH) : JV l mi_11_tellOthers jeV 0 [(0, .ref a0), (1, .int a1), (2, .int a2), (3, .ref a3)] [] H (F_11_tellOthers a0 a1 a2 a3 H) := by
  unfold F_11_tellOthers
  refine s_42 1 rfl rfl ?_
  refine s_16 6 3 6 jbp_6 rfl ?_
  refine s_182V 0 202 6 202 (m_11_begin l _ _ _) rfl k_11_begin jc_11 jw_783 jw_785 jps_6 rfl rfl rfl rfl rfl (fun x4 h5 => ?_)
  refine s_42 7 rfl rfl ?_
  refine s_4 8 rfl ?_
  refine s_182V 0 205 11 205 (m_11_put l _ _ _) rfl k_11_put jc_11 jw_787 jw_789 jps_7 rfl rfl rfl rfl rfl (fun x6 h7 => ?_)
  refine s_42 12 rfl rfl ?_
  refine s_28 13 rfl rfl ?_
  refine s_182V 0 205 16 205 (m_11_put l _ _ _) rfl k_11_put jc_11 jw_787 jw_789 jps_7 rfl rfl rfl rfl rfl (fun x8 h9 => ?_)
  refine s_42 17 rfl rfl ?_
  refine s_45 18 rfl rfl ?_
  refine s_3 19 rfl ?_
  refine s_16 32 21 32 jbp_32 rfl ?_
  refine s_182V 0 211 24 211 (m_11_put_2 l _ _ _ _ _) rfl k_11_put_2 jc_11 jw_1196 jw_1198 jps_33 rfl rfl rfl rfl rfl (fun x10 h11 => ?_)
  refine s_3 25 rfl ?_
  refine s_54 4 27 rfl rfl ?_
  exact s_jmp (w_11_tellOthers_27 l jfuel _ _ _ _) ⟨rfl, rfl, rfl, trivial⟩
theorem m_11_tellOthers (l : Launch) (a0 : Nat) (a1 : Int32) (a2 : Int32) (a3 : Nat) (H : jH) : JMet l y_11_tellOthers prog_1_method_15_code mi_11_tellOthers jeV [.ref a0, .int a1, .int a2, .ref a3] H (F_11_tellOthers a0 a1 a2 a3 H) := jmet_of n_11_tellOthers (by decide) ⟨rfl, rfl⟩ (Nat.le_of_ble_eq_true rfl) (v_11_tellOthers l a0 a1 a2 a3 H)
def mi_11_answerBlock : jM := (504714640657957970965731852726243489949749335179553762231123509088159865094931199677149554212841948472614167277888254028396677476435500, 56, 5, "CoinNode", none, "answerBlock", 3, 109)
def y_11_answerBlock : MethodName := ⟨"CoinNode", "answerBlock", "(ILCoinNode$Block;IZ)V"⟩
theorem n_11_answerBlock : jn_is prog_1_method_13_code mi_11_answerBlock.1 mi_11_answerBlock.2.1 := by unfold jn_is; decide +kernel
theorem k_11_answerBlock : jmok y_11_answerBlock prog_1_method_13_code mi_11_answerBlock 4 := ⟨jw_1346, jw_1, ⟨by decide, by decide⟩, by decide +kernel⟩
theorem v_11_answerBlock_55 (l : Launch)   (H : jH) : JV l mi_11_answerBlock jeV 55 [] [] H (B_11_answerBlock_55   H) := by
  unfold B_11_answerBlock_55
  exact s_177 rfl rfl
theorem v_11_answerBlock_31 (l : Launch)  (a0 : Nat) (a1 : Int32) (a4 : Int32) (s0 : Nat) (s1 : Int32) (s2 : Int32) (s3 : Nat) (H : jH) : JV l mi_11_answerBlock jeV 31 [(0, .ref a0), (1, .int a1), (4, .int a4)] [.ref s3, .int s2, .int s1, .ref s0] H (B_11_answerBlock_31  a0 a1 a4 s0 s1 s2 s3 H) := by
  unfold B_11_answerBlock_31
  refine s_182V 0 134 34 134 (m_11_answerVerdict l _ _ _ _ _) rfl k_11_answerVerdict jc_11 jw_779 jw_781 jps_5 rfl rfl rfl rfl rfl (fun x1 h2 => ?_)
  refine s_21 4 36 rfl rfl ?_
  refine s_153 0 19 55 39 rfl rfl ?_ ?_
  · exact s_jmp (v_11_answerBlock_55 l _) trivial
  · refine s_42 40 rfl rfl ?_
    refine s_27 41 rfl rfl ?_
    refine s_5 42 rfl ?_
    refine s_42 43 rfl rfl ?_
    refine s_180R 0 59 46 59 f_11_12 jw_489 rfl rfl ?_
    refine s_180R 0 90 49 90 f_1_6 jw_390 rfl rfl ?_
    refine s_180R 0 148 52 148 f_0_1 jw_328 rfl rfl ?_
    refine s_182V 0 196 55 196 (m_11_tellOthers l _ _ _ _ _) rfl k_11_tellOthers jc_11 jw_1192 jw_1194 jps_32 rfl rfl rfl rfl rfl (fun x3 h4 => ?_)
    exact s_jmp (v_11_answerBlock_55 l _) trivial
theorem v_11_answerBlock_16 (l : Launch)  (a0 : Nat) (a1 : Int32) (a2 : Nat) (a3 : Int32) (a4 : Int32) (H : jH) : JV l mi_11_answerBlock jeV 16 [(0, .ref a0), (1, .int a1), (2, .ref a2), (3, .int a3), (4, .int a4)] [] H (B_11_answerBlock_16  a0 a1 a2 a3 a4 H) := by
  unfold B_11_answerBlock_16
  refine s_42 17 rfl rfl ?_
  refine s_27 18 rfl rfl ?_
  refine s_29 19 rfl rfl ?_
  refine s_44 20 rfl rfl ?_
  refine s_199 0 7 27 23 rfl rfl ?_ ?_
  · refine s_44 28 rfl rfl ?_
    refine s_180R 0 148 31 148 f_0_1 jw_328 rfl rfl ?_
    exact s_jmp (v_11_answerBlock_31 l _ _ _ _ _ _ _ _) ⟨rfl, rfl, rfl, trivial⟩
  · refine s_1 24 rfl ?_
    refine s_167 0 7 31 rfl rfl ?_
    exact s_jmp (v_11_answerBlock_31 l _ _ _ _ _ _ _ _) ⟨rfl, rfl, rfl, trivial⟩
theorem v_11_answerBlock (l : Launch) (a0 : Nat) (a1 : Int32) (a2 : Nat) (a3 : Int32) (a4 : Int32) (H : jH) : JV l mi_11_answerBlock jeV 0 [(0, .ref a0), (1, .int a1), (2, .ref a2), (3, .int a3), (4, .int a4)] [] H (F_11_answerBlock a0 a1 a2 a3 a4 H) := by
  unfold F_11_answerBlock
  refine s_44 1 rfl rfl ?_
  refine s_198 0 15 16 4 rfl rfl ?_ ?_
  · exact s_jmp (v_11_answerBlock_16 l _ _ _ _ _ _) ⟨rfl, rfl, rfl, rfl, rfl, trivial⟩
  · refine s_29 5 rfl rfl ?_
    refine s_16 21 7 21 jbp_21 rfl ?_
    refine s_160 0 9 16 10 rfl rfl ?_ ?_
    · exact s_jmp (v_11_answerBlock_16 l _ _ _ _ _ _) ⟨rfl, rfl, rfl, rfl, rfl, trivial⟩
    · refine s_42 11 rfl rfl ?_
      refine s_27 12 rfl rfl ?_
      refine s_182V 0 199 15 199 (m_11_askWhatIsBehind l _ _ _) rfl k_11_askWhatIsBehind jc_11 jw_1347 jw_1349 jps_46 rfl rfl rfl rfl rfl (fun x5 h6 => ?_)
      exact s_177 rfl rfl
theorem m_11_answerBlock (l : Launch) (a0 : Nat) (a1 : Int32) (a2 : Nat) (a3 : Int32) (a4 : Int32) (H : jH) : JMet l y_11_answerBlock prog_1_method_13_code mi_11_answerBlock jeV [.ref a0, .int a1, .ref a2, .int a3, .int a4] H (F_11_answerBlock a0 a1 a2 a3 a4 H) := jmet_of n_11_answerBlock (by decide) ⟨rfl, rfl⟩ (Nat.le_of_ble_eq_true rfl) (v_11_answerBlock l a0 a1 a2 a3 a4 H)
def mi_11_isList : jM := (2535913535658229502447449185541482580049972025272332985080662174580101010755760156608041839735926004981567872054986103831768166537968940352938197869577543985098773610026, 70, 3, "CoinNode", some FieldType.boolean, "isList", 0, 0)
def y_11_isList : MethodName := ⟨"CoinNode", "isList", "([B)Z"⟩
theorem n_11_isList : jn_is prog_1_method_20_code mi_11_isList.1 mi_11_isList.2.1 := by unfold jn_is; decide +kernel
theorem k_11_isList : jmok y_11_isList prog_1_method_20_code mi_11_isList 1 := ⟨jw_1365, jw_1, ⟨by decide, by decide⟩, by decide +kernel⟩
theorem v_11_isList_36 (l : Launch)   (H : jH) : JV l mi_11_isList jeI 36 [] [] H (B_11_isList_36   H) := by
  unfold B_11_isList_36
  refine s_3 37 rfl ?_
  exact s_172Z rfl rfl
theorem v_11_isList_62 (l : Launch) (k40 : Nat → Int32 → jH → Option (Int32 × jH)) (hk40 : ∀ a0 a2 H, JV l mi_11_isList jeI 40 [(0, .ref a0), (2, .int a2)] [] H (k40 a0 a2 H)) (a0 : Nat) (a2 : Int32) (H : jH) : JV l mi_11_isList jeI 62 [(0, .ref a0), (2, .int a2)] [] H (B_11_isList_62 k40 a0 a2 H) := by
  unfold B_11_isList_62
  refine s_132L 2 33 65 33 ji_33 rfl rfl rfl (fun x1 => ?_)
  refine s_167 255 231 40 rfl rfl ?_
  exact s_jmp (hk40 _ _ _) ⟨rfl, rfl, trivial⟩
theorem v_11_isList_40 (l : Launch) (k40 : Nat → Int32 → jH → Option (Int32 × jH)) (hk40 : ∀ a0 a2 H, JV l mi_11_isList jeI 40 [(0, .ref a0), (2, .int a2)] [] H (k40 a0 a2 H)) (a0 : Nat) (a2 : Int32) (H : jH) : JV l mi_11_isList jeI 40 [(0, .ref a0), (2, .int a2)] [] H (B_11_isList_40 k40 a0 a2 H) := by
  unfold B_11_isList_40
  refine s_28 41 rfl rfl ?_
  refine s_42 42 rfl rfl ?_
  refine s_190 43 101 jm_101 rfl ?_
  refine s_162 0 25 68 46 rfl rfl ?_ ?_
  · refine s_4 69 rfl ?_
    exact s_172Z rfl rfl
  · refine s_42 47 rfl rfl ?_
    refine s_28 48 rfl rfl ?_
    refine s_51B 49 rfl ?_
    refine s_4 50 rfl ?_
    refine s_159 0 12 62 53 rfl rfl ?_ ?_
    · exact s_jmp (v_11_isList_62 l k40 hk40 _ _ _) ⟨rfl, rfl, trivial⟩
    · refine s_42 54 rfl rfl ?_
      refine s_28 55 rfl rfl ?_
      refine s_51B 56 rfl ?_
      refine s_5 57 rfl ?_
      refine s_159 0 5 62 60 rfl rfl ?_ ?_
      · exact s_jmp (v_11_isList_62 l k40 hk40 _ _ _) ⟨rfl, rfl, trivial⟩
      · refine s_3 61 rfl ?_
        exact s_172Z rfl rfl
theorem w_11_isList_40 (l : Launch)  (n : Nat) : ∀ a0 a2 H, JV l mi_11_isList jeI 40 [(0, .ref a0), (2, .int a2)] [] H (F_11_isList_40  n a0 a2 H) := by
  induction n with
  | zero => intro _ _ _; exact s_none
  | succ n ih => intro a0 a2 H; exact v_11_isList_40 l (F_11_isList_40  n) ih a0 a2 H
theorem v_11_isList_13 (l : Launch)  (a0 : Nat) (s0 : Int32) (H : jH) : JV l mi_11_isList jeI 13 [(0, .ref a0)] [.int s0] H (B_11_isList_13  a0 s0 H) := by
  unfold B_11_isList_13
  refine s_60 14 rfl rfl ?_
  refine s_27 15 rfl rfl ?_
  refine s_4 16 rfl ?_
  refine s_161 0 20 36 19 rfl rfl ?_ ?_
  · exact s_jmp (v_11_isList_36 l _) trivial
  · refine s_27 20 rfl rfl ?_
    refine s_16 8 22 8 jbp_8 rfl ?_
    refine s_163 0 14 36 25 rfl rfl ?_ ?_
    · exact s_jmp (v_11_isList_36 l _) trivial
    · refine s_42 26 rfl rfl ?_
      refine s_190 27 101 jm_101 rfl ?_
      refine s_5 28 rfl ?_
      refine s_16 33 30 33 jbp_33 rfl ?_
      refine s_27 31 rfl rfl ?_
      refine s_104 32 rfl ?_
      refine s_96 33 rfl ?_
      refine s_159 0 5 38 36 rfl rfl ?_ ?_
      · refine s_5 39 rfl ?_
        refine s_61 40 rfl rfl ?_
        exact s_jmp (w_11_isList_40 l jfuel _ _ _) ⟨rfl, rfl, trivial⟩
      · exact s_jmp (v_11_isList_36 l _) trivial
theorem v_11_isList (l : Launch) (a0 : Nat) (H : jH) : JV l mi_11_isList jeI 0 [(0, .ref a0)] [] H (F_11_isList a0 H) := by
  unfold F_11_isList
  refine s_42 1 rfl rfl ?_
  refine s_190 2 101 jm_101 rfl ?_
  refine s_5 3 rfl ?_
  refine s_162 0 7 10 6 rfl rfl ?_ ?_
  · refine s_42 11 rfl rfl ?_
    refine s_4 12 rfl ?_
    refine s_51B 13 rfl ?_
    exact s_jmp (v_11_isList_13 l _ _ _) ⟨rfl, trivial⟩
  · refine s_3 7 rfl ?_
    refine s_167 0 6 13 rfl rfl ?_
    exact s_jmp (v_11_isList_13 l _ _ _) ⟨rfl, trivial⟩
theorem m_11_isList (l : Launch) (a0 : Nat) (H : jH) : JMet l y_11_isList prog_1_method_20_code mi_11_isList jeI [.ref a0] H (F_11_isList a0 H) := jmet_of n_11_isList (by decide) ⟨rfl, rfl⟩ (Nat.le_of_ble_eq_true rfl) (v_11_isList l a0 H)
def mi_3_same : jM := (35192863703326375577098319908611862643532216887150690704760424713003838441355347273808680138552703187956274435945328083271238422795007728958798833949467, 63, 5, "CoinNode$Hash", some FieldType.boolean, "same", 0, 0)
def y_3_same : MethodName := ⟨"CoinNode$Hash", "same", "([BI[BI)Z"⟩
theorem n_3_same : jn_is prog_5_method_6_code mi_3_same.1 mi_3_same.2.1 := by unfold jn_is; decide +kernel
theorem k_3_same : jmok y_3_same prog_5_method_6_code mi_3_same 4 := ⟨jw_815, jw_2, ⟨by decide, by decide⟩, by decide +kernel⟩
theorem v_3_same_26 (l : Launch)   (H : jH) : JV l mi_3_same jeI 26 [] [] H (B_3_same_26   H) := by
  unfold B_3_same_26
  refine s_3 27 rfl ?_
  exact s_172Z rfl rfl
theorem v_3_same_31 (l : Launch) (k31 : Nat → Int32 → Nat → Int32 → Int32 → jH → Option (Int32 × jH)) (hk31 : ∀ a0 a1 a2 a3 a4 H, JV l mi_3_same jeI 31 [(0, .ref a0), (1, .int a1), (2, .ref a2), (3, .int a3), (4, .int a4)] [] H (k31 a0 a1 a2 a3 a4 H)) (a0 : Nat) (a1 : Int32) (a2 : Nat) (a3 : Int32) (a4 : Int32) (H : jH) : JV l mi_3_same jeI 31 [(0, .ref a0), (1, .int a1), (2, .ref a2), (3, .int a3), (4, .int a4)] [] H (B_3_same_31 k31 a0 a1 a2 a3 a4 H) := by
  unfold B_3_same_31
  refine s_21 4 33 rfl rfl ?_
  refine s_16 32 35 32 jbp_32 rfl ?_
  refine s_162 0 26 61 38 rfl rfl ?_ ?_
  · refine s_4 62 rfl ?_
    exact s_172Z rfl rfl
  · refine s_42 39 rfl rfl ?_
    refine s_27 40 rfl rfl ?_
    refine s_21 4 42 rfl rfl ?_
    refine s_96 43 rfl ?_
    refine s_51B 44 rfl ?_
    refine s_44 45 rfl rfl ?_
    refine s_29 46 rfl rfl ?_
    refine s_21 4 48 rfl rfl ?_
    refine s_96 49 rfl ?_
    refine s_51B 50 rfl ?_
    refine s_159 0 5 55 53 rfl rfl ?_ ?_
    · refine s_132L 4 1 58 1 ji_1 rfl rfl rfl (fun x1 => ?_)
      refine s_167 255 229 31 rfl rfl ?_
      exact s_jmp (hk31 _ _ _ _ _ _) ⟨rfl, rfl, rfl, rfl, rfl, trivial⟩
    · refine s_3 54 rfl ?_
      exact s_172Z rfl rfl
theorem w_3_same_31 (l : Launch)  (n : Nat) : ∀ a0 a1 a2 a3 a4 H, JV l mi_3_same jeI 31 [(0, .ref a0), (1, .int a1), (2, .ref a2), (3, .int a3), (4, .int a4)] [] H (F_3_same_31  n a0 a1 a2 a3 a4 H) := by
  induction n with
  | zero => intro _ _ _ _ _ _; exact s_none
  | succ n ih => intro a0 a1 a2 a3 a4 H; exact v_3_same_31 l (F_3_same_31  n) ih a0 a1 a2 a3 a4 H
theorem v_3_same (l : Launch) (a0 : Nat) (a1 : Int32) (a2 : Nat) (a3 : Int32) (H : jH) : JV l mi_3_same jeI 0 [(0, .ref a0), (1, .int a1), (2, .ref a2), (3, .int a3)] [] H (F_3_same a0 a1 a2 a3 H) := by
  unfold F_3_same
  refine s_27 1 rfl rfl ?_
  refine s_155 0 25 26 4 rfl rfl ?_ ?_
  · exact s_jmp (v_3_same_26 l _) trivial
  · refine s_29 5 rfl rfl ?_
    refine s_155 0 21 26 8 rfl rfl ?_ ?_
    · exact s_jmp (v_3_same_26 l _) trivial
    · refine s_27 9 rfl rfl ?_
      refine s_16 32 11 32 jbp_32 rfl ?_
      refine s_96 12 rfl ?_
      refine s_42 13 rfl rfl ?_
      refine s_190 14 101 jm_101 rfl ?_
      refine s_163 0 12 26 17 rfl rfl ?_ ?_
      · exact s_jmp (v_3_same_26 l _) trivial
      · refine s_29 18 rfl rfl ?_
        refine s_16 32 20 32 jbp_32 rfl ?_
        refine s_96 21 rfl ?_
        refine s_44 22 rfl rfl ?_
        refine s_190 23 101 jm_101 rfl ?_
        refine s_164 0 5 28 26 rfl rfl ?_ ?_
        · refine s_3 29 rfl ?_
          refine s_54 4 31 rfl rfl ?_
          exact s_jmp (w_3_same_31 l jfuel _ _ _ _ _ _) ⟨rfl, rfl, rfl, rfl, rfl, trivial⟩
        · exact s_jmp (v_3_same_26 l _) trivial
theorem m_3_same (l : Launch) (a0 : Nat) (a1 : Int32) (a2 : Nat) (a3 : Int32) (H : jH) : JMet l y_3_same prog_5_method_6_code mi_3_same jeI [.ref a0, .int a1, .ref a2, .int a3] H (F_3_same a0 a1 a2 a3 H) := jmet_of n_3_same (by decide) ⟨rfl, rfl⟩ (Nat.le_of_ble_eq_true rfl) (v_3_same l a0 a1 a2 a3 H)
def mi_1_find : jM := (24638211026871370424428453599296343625797286896041987426099690403115884714972963107103153436863779126787, 43, 4, "CoinNode$Chain", some (FieldType.object "CoinNode$Block"), "find", 1, 24)
def y_1_find : MethodName := ⟨"CoinNode$Chain", "find", "([BI)LCoinNode$Block;"⟩
theorem n_1_find : jn_is prog_3_method_3_code mi_1_find.1 mi_1_find.2.1 := by unfold jn_is; decide +kernel
theorem k_1_find : jmok y_1_find prog_3_method_3_code mi_1_find 2 := ⟨jw_1216, jw_9, ⟨by decide, by decide⟩, by decide +kernel⟩
theorem v_1_find_2 (l : Launch) (k2 : Nat → Nat → Int32 → Int32 → jH → Option (Nat × jH)) (hk2 : ∀ a0 a1 a2 a3 H, JV l mi_1_find jeR 2 [(0, .ref a0), (1, .ref a1), (2, .int a2), (3, .int a3)] [] H (k2 a0 a1 a2 a3 H)) (a0 : Nat) (a1 : Nat) (a2 : Int32) (a3 : Int32) (H : jH) : JV l mi_1_find jeR 2 [(0, .ref a0), (1, .ref a1), (2, .int a2), (3, .int a3)] [] H (B_1_find_2 k2 a0 a1 a2 a3 H) := by
  unfold B_1_find_2
  refine s_29 3 rfl rfl ?_
  refine s_42 4 rfl rfl ?_
  refine s_180I 0 70 7 70 f_1_4 jw_385 rfl rfl ?_
  refine s_162 0 34 41 10 rfl rfl ?_ ?_
  · refine s_1 42 rfl ?_
    exact s_176 rfl rfl rfl
  · refine s_42 11 rfl rfl ?_
    refine s_180R 0 13 14 13 f_1_3 jw_384 rfl rfl ?_
    refine s_29 15 rfl rfl ?_
    refine s_50 16 114 jt_114 rfl ?_
    refine s_180R 0 64 19 64 f_0_1 jw_327 rfl rfl ?_
    refine s_3 20 rfl ?_
    refine s_43 21 rfl rfl ?_
    refine s_28 22 rfl rfl ?_
    refine s_184I 0 81 25 81 (m_3_same l _ _ _ _ _) rfl k_3_same jw_1217 jw_814 rfl rfl rfl rfl rfl (fun x1 h2 => ?_)
    refine s_153 0 10 35 28 rfl rfl ?_ ?_
    · refine s_132L 3 1 38 1 ji_1 rfl rfl rfl (fun x3 => ?_)
      refine s_167 255 220 2 rfl rfl ?_
      exact s_jmp (hk2 _ _ _ _ _) ⟨rfl, rfl, rfl, rfl, trivial⟩
    · refine s_42 29 rfl rfl ?_
      refine s_180R 0 13 32 13 f_1_3 jw_384 rfl rfl ?_
      refine s_29 33 rfl rfl ?_
      refine s_50 34 114 jt_114 rfl ?_
      exact s_176 rfl rfl rfl
theorem w_1_find_2 (l : Launch)  (n : Nat) : ∀ a0 a1 a2 a3 H, JV l mi_1_find jeR 2 [(0, .ref a0), (1, .ref a1), (2, .int a2), (3, .int a3)] [] H (F_1_find_2  n a0 a1 a2 a3 H) := by
  induction n with
  | zero => intro _ _ _ _ _; exact s_none
  | succ n ih => intro a0 a1 a2 a3 H; exact v_1_find_2 l (F_1_find_2  n) ih a0 a1 a2 a3 H
theorem v_1_find (l : Launch) (a0 : Nat) (a1 : Nat) (a2 : Int32) (H : jH) : JV l mi_1_find jeR 0 [(0, .ref a0), (1, .ref a1), (2, .int a2)] [] H (F_1_find a0 a1 a2 H) := by
  unfold F_1_find
  refine s_3 1 rfl ?_
  refine s_62 2 rfl rfl ?_
  exact s_jmp (w_1_find_2 l jfuel _ _ _ _ _) ⟨rfl, rfl, rfl, rfl, trivial⟩
theorem m_1_find (l : Launch) (a0 : Nat) (a1 : Nat) (a2 : Int32) (H : jH) : JMet l y_1_find prog_3_method_3_code mi_1_find jeR [.ref a0, .ref a1, .int a2] H (F_1_find a0 a1 a2 H) := jmet_of n_1_find (by decide) ⟨rfl, rfl⟩ (Nat.le_of_ble_eq_true rfl) (v_1_find l a0 a1 a2 H)
def mi_6_find : jM := (24638211026871370424428453598391717928630753918428083573345107966108179294722812499318987509415412579843, 43, 4, "CoinNode$Pool", some (FieldType.object "CoinNode$Tx"), "find", 1, 24)
def y_6_find : MethodName := ⟨"CoinNode$Pool", "find", "([BI)LCoinNode$Tx;"⟩
theorem n_6_find : jn_is prog_8_method_3_code mi_6_find.1 mi_6_find.2.1 := by unfold jn_is; decide +kernel
theorem k_6_find : jmok y_6_find prog_8_method_3_code mi_6_find 2 := ⟨jw_823, jw_13, ⟨by decide, by decide⟩, by decide +kernel⟩
theorem v_6_find_2 (l : Launch) (k2 : Nat → Nat → Int32 → Int32 → jH → Option (Nat × jH)) (hk2 : ∀ a0 a1 a2 a3 H, JV l mi_6_find jeR 2 [(0, .ref a0), (1, .ref a1), (2, .int a2), (3, .int a3)] [] H (k2 a0 a1 a2 a3 H)) (a0 : Nat) (a1 : Nat) (a2 : Int32) (a3 : Int32) (H : jH) : JV l mi_6_find jeR 2 [(0, .ref a0), (1, .ref a1), (2, .int a2), (3, .int a3)] [] H (B_6_find_2 k2 a0 a1 a2 a3 H) := by
  unfold B_6_find_2
  refine s_29 3 rfl rfl ?_
  refine s_42 4 rfl rfl ?_
  refine s_180I 0 41 7 41 f_6_4 jw_449 rfl rfl ?_
  refine s_162 0 34 41 10 rfl rfl ?_ ?_
  · refine s_1 42 rfl ?_
    exact s_176 rfl rfl rfl
  · refine s_42 11 rfl rfl ?_
    refine s_180R 0 11 14 11 f_6_2 jw_447 rfl rfl ?_
    refine s_29 15 rfl rfl ?_
    refine s_50 16 113 jt_113 rfl ?_
    refine s_180R 0 45 19 45 f_10_3 jw_721 rfl rfl ?_
    refine s_3 20 rfl ?_
    refine s_43 21 rfl rfl ?_
    refine s_28 22 rfl rfl ?_
    refine s_184I 0 49 25 49 (m_3_same l _ _ _ _ _) rfl k_3_same jw_824 jw_814 rfl rfl rfl rfl rfl (fun x1 h2 => ?_)
    refine s_153 0 10 35 28 rfl rfl ?_ ?_
    · refine s_132L 3 1 38 1 ji_1 rfl rfl rfl (fun x3 => ?_)
      refine s_167 255 220 2 rfl rfl ?_
      exact s_jmp (hk2 _ _ _ _ _) ⟨rfl, rfl, rfl, rfl, trivial⟩
    · refine s_42 29 rfl rfl ?_
      refine s_180R 0 11 32 11 f_6_2 jw_447 rfl rfl ?_
      refine s_29 33 rfl rfl ?_
      refine s_50 34 113 jt_113 rfl ?_
      exact s_176 rfl rfl rfl
theorem w_6_find_2 (l : Launch)  (n : Nat) : ∀ a0 a1 a2 a3 H, JV l mi_6_find jeR 2 [(0, .ref a0), (1, .ref a1), (2, .int a2), (3, .int a3)] [] H (F_6_find_2  n a0 a1 a2 a3 H) := by
  induction n with
  | zero => intro _ _ _ _ _; exact s_none
  | succ n ih => intro a0 a1 a2 a3 H; exact v_6_find_2 l (F_6_find_2  n) ih a0 a1 a2 a3 H
theorem v_6_find (l : Launch) (a0 : Nat) (a1 : Nat) (a2 : Int32) (H : jH) : JV l mi_6_find jeR 0 [(0, .ref a0), (1, .ref a1), (2, .int a2)] [] H (F_6_find a0 a1 a2 H) := by
  unfold F_6_find
  refine s_3 1 rfl ?_
  refine s_62 2 rfl rfl ?_
  exact s_jmp (w_6_find_2 l jfuel _ _ _ _ _) ⟨rfl, rfl, rfl, rfl, trivial⟩
theorem m_6_find (l : Launch) (a0 : Nat) (a1 : Nat) (a2 : Int32) (H : jH) : JMet l y_6_find prog_8_method_3_code mi_6_find jeR [.ref a0, .ref a1, .int a2] H (F_6_find a0 a1 a2 H) := jmet_of n_6_find (by decide) ⟨rfl, rfl⟩ (Nat.le_of_ble_eq_true rfl) (v_6_find l a0 a1 a2 H)
def mi_11_answerGive : jM := (4464693939171778688765020810689089707391112236605495443171550343501110351945814735414250389242532308402635963643412815525956470671458526623468282133938818263262895339701444527986494184539619146567585494629359700508387332258446634880010738133413875787831349486539412254743156980368172398549690315794773222102489867979727588698463203806101810721097121947242573323073713231679665952359048459271424050047965594695724, 171, 6, "CoinNode", none, "answerGive", 2, 83)
def y_11_answerGive : MethodName := ⟨"CoinNode", "answerGive", "(I[B)V"⟩
theorem n_11_answerGive : jn_is prog_1_method_18_code mi_11_answerGive.1 mi_11_answerGive.2.1 := by unfold jn_is; decide +kernel
theorem k_11_answerGive : jmok y_11_answerGive prog_1_method_18_code mi_11_answerGive 2 := ⟨jw_1362, jw_1, ⟨by decide, by decide⟩, by decide +kernel⟩
theorem v_11_answerGive_159 (l : Launch) (k17 : Nat → Int32 → Nat → Int32 → jH → Option (Unit × jH)) (hk17 : ∀ a0 a1 a2 a3 H, JV l mi_11_answerGive jeV 17 [(0, .ref a0), (1, .int a1), (2, .ref a2), (3, .int a3)] [] H (k17 a0 a1 a2 a3 H)) (a0 : Nat) (a1 : Int32) (a2 : Nat) (a3 : Int32) (H : jH) : JV l mi_11_answerGive jeV 159 [(0, .ref a0), (1, .int a1), (2, .ref a2), (3, .int a3)] [] H (B_11_answerGive_159 k17 a0 a1 a2 a3 H) := by
  unfold B_11_answerGive_159
  refine s_42 160 rfl rfl ?_
  refine s_27 161 rfl rfl ?_
  refine s_182V 0 208 164 208 (m_11_post l _ _ _) rfl k_11_post jc_11 jw_791 jw_793 jps_8 rfl rfl rfl rfl rfl (fun x1 h2 => ?_)
  refine s_132L 3 33 167 33 ji_33 rfl rfl rfl (fun x3 => ?_)
  refine s_167 255 106 17 rfl rfl ?_
  exact s_jmp (hk17 _ _ _ _ _) ⟨rfl, rfl, rfl, rfl, trivial⟩
theorem v_11_answerGive_145 (l : Launch) (k17 : Nat → Int32 → Nat → Int32 → jH → Option (Unit × jH)) (hk17 : ∀ a0 a1 a2 a3 H, JV l mi_11_answerGive jeV 17 [(0, .ref a0), (1, .int a1), (2, .ref a2), (3, .int a3)] [] H (k17 a0 a1 a2 a3 H)) (a0 : Nat) (a1 : Int32) (a2 : Nat) (a3 : Int32) (H : jH) : JV l mi_11_answerGive jeV 145 [(0, .ref a0), (1, .int a1), (2, .ref a2), (3, .int a3)] [] H (B_11_answerGive_145 k17 a0 a1 a2 a3 H) := by
  unfold B_11_answerGive_145
  refine s_42 146 rfl rfl ?_
  refine s_16 7 148 7 jbp_7 rfl ?_
  refine s_182V 0 202 151 202 (m_11_begin l _ _ _) rfl k_11_begin jc_11 jw_783 jw_785 jps_6 rfl rfl rfl rfl rfl (fun x4 h5 => ?_)
  refine s_42 152 rfl rfl ?_
  refine s_44 153 rfl rfl ?_
  refine s_29 154 rfl rfl ?_
  refine s_16 33 156 33 jbp_33 rfl ?_
  refine s_182V 0 211 159 211 (m_11_put_2 l _ _ _ _ _) rfl k_11_put_2 jc_11 jw_1196 jw_1198 jps_33 rfl rfl rfl rfl rfl (fun x6 h7 => ?_)
  exact s_jmp (v_11_answerGive_159 l k17 hk17 _ _ _ _ _) ⟨rfl, rfl, rfl, rfl, trivial⟩
theorem v_11_answerGive_72 (l : Launch) (k17 : Nat → Int32 → Nat → Int32 → jH → Option (Unit × jH)) (hk17 : ∀ a0 a1 a2 a3 H, JV l mi_11_answerGive jeV 17 [(0, .ref a0), (1, .int a1), (2, .ref a2), (3, .int a3)] [] H (k17 a0 a1 a2 a3 H)) (a0 : Nat) (a1 : Int32) (a2 : Nat) (a3 : Int32) (a4 : Nat) (s0 : Nat) (H : jH) : JV l mi_11_answerGive jeV 72 [(0, .ref a0), (1, .int a1), (2, .ref a2), (3, .int a3), (4, .ref a4)] [.ref s0] H (B_11_answerGive_72 k17 a0 a1 a2 a3 a4 s0 H) := by
  unfold B_11_answerGive_72
  refine s_58 5 74 rfl rfl ?_
  refine s_25 4 76 rfl rfl ?_
  refine s_198 0 30 106 79 rfl rfl ?_ ?_
  · refine s_25 5 108 rfl rfl ?_
    refine s_198 0 37 145 111 rfl rfl ?_ ?_
    · exact s_jmp (v_11_answerGive_145 l k17 hk17 _ _ _ _ _) ⟨rfl, rfl, rfl, rfl, trivial⟩
    · refine s_25 5 113 rfl rfl ?_
      refine s_180I 0 114 116 114 f_0_6 jw_338 rfl rfl ?_
      refine s_158 0 29 145 119 rfl rfl ?_ ?_
      · exact s_jmp (v_11_answerGive_145 l k17 hk17 _ _ _ _ _) ⟨rfl, rfl, rfl, rfl, trivial⟩
      · refine s_42 120 rfl rfl ?_
        refine s_5 121 rfl ?_
        refine s_182V 0 202 124 202 (m_11_begin l _ _ _) rfl k_11_begin jc_11 jw_783 jw_785 jps_6 rfl rfl rfl rfl rfl (fun x8 h9 => ?_)
        refine s_42 125 rfl rfl ?_
        refine s_25 5 127 rfl rfl ?_
        refine s_180R 0 220 130 220 f_0_0 jw_325 rfl rfl ?_
        refine s_4 131 rfl ?_
        refine s_25 5 133 rfl rfl ?_
        refine s_180R 0 220 136 220 f_0_0 jw_325 rfl rfl ?_
        refine s_190 137 101 jm_101 rfl ?_
        refine s_4 138 rfl ?_
        refine s_100 139 rfl ?_
        refine s_182V 0 211 142 211 (m_11_put_2 l _ _ _ _ _) rfl k_11_put_2 jc_11 jw_1196 jw_1198 jps_33 rfl rfl rfl rfl rfl (fun x10 h11 => ?_)
        refine s_167 0 17 159 rfl rfl ?_
        exact s_jmp (v_11_answerGive_159 l k17 hk17 _ _ _ _ _) ⟨rfl, rfl, rfl, rfl, trivial⟩
  · refine s_42 80 rfl rfl ?_
    refine s_4 81 rfl ?_
    refine s_182V 0 202 84 202 (m_11_begin l _ _ _) rfl k_11_begin jc_11 jw_783 jw_785 jps_6 rfl rfl rfl rfl rfl (fun x12 h13 => ?_)
    refine s_42 85 rfl rfl ?_
    refine s_25 4 87 rfl rfl ?_
    refine s_180R 0 229 90 229 f_10_0 jw_710 rfl rfl ?_
    refine s_25 4 92 rfl rfl ?_
    refine s_180I 0 230 95 230 f_10_1 jw_713 rfl rfl ?_
    refine s_25 4 97 rfl rfl ?_
    refine s_180I 0 185 100 185 f_10_2 jw_718 rfl rfl ?_
    refine s_182V 0 211 103 211 (m_11_put_2 l _ _ _ _ _) rfl k_11_put_2 jc_11 jw_1196 jw_1198 jps_33 rfl rfl rfl rfl rfl (fun x14 h15 => ?_)
    refine s_167 0 56 159 rfl rfl ?_
    exact s_jmp (v_11_answerGive_159 l k17 hk17 _ _ _ _ _) ⟨rfl, rfl, rfl, rfl, trivial⟩
theorem v_11_answerGive_48 (l : Launch) (k17 : Nat → Int32 → Nat → Int32 → jH → Option (Unit × jH)) (hk17 : ∀ a0 a1 a2 a3 H, JV l mi_11_answerGive jeV 17 [(0, .ref a0), (1, .int a1), (2, .ref a2), (3, .int a3)] [] H (k17 a0 a1 a2 a3 H)) (a0 : Nat) (a1 : Int32) (a2 : Nat) (a3 : Int32) (s0 : Nat) (H : jH) : JV l mi_11_answerGive jeV 48 [(0, .ref a0), (1, .int a1), (2, .ref a2), (3, .int a3)] [.ref s0] H (B_11_answerGive_48 k17 a0 a1 a2 a3 s0 H) := by
  unfold B_11_answerGive_48
  refine s_58 4 50 rfl rfl ?_
  refine s_44 51 rfl rfl ?_
  refine s_29 52 rfl rfl ?_
  refine s_51B 53 rfl ?_
  refine s_5 54 rfl ?_
  refine s_160 0 17 71 57 rfl rfl ?_ ?_
  · refine s_1 72 rfl ?_
    exact s_jmp (v_11_answerGive_72 l k17 hk17 _ _ _ _ _ _ _) ⟨rfl, rfl, rfl, rfl, rfl, trivial⟩
  · refine s_42 58 rfl rfl ?_
    refine s_180R 0 59 61 59 f_11_12 jw_489 rfl rfl ?_
    refine s_44 62 rfl rfl ?_
    refine s_29 63 rfl rfl ?_
    refine s_4 64 rfl ?_
    refine s_96 65 rfl ?_
    refine s_182R 0 217 68 217 (m_1_find l _ _ _ _) rfl k_1_find jc_1 jw_1357 jw_1214 jw_1215 rfl rfl rfl rfl rfl (fun x16 h17 => ?_)
    refine s_167 0 4 72 rfl rfl ?_
    exact s_jmp (v_11_answerGive_72 l k17 hk17 _ _ _ _ _ _ _) ⟨rfl, rfl, rfl, rfl, rfl, trivial⟩
theorem v_11_answerGive_17 (l : Launch) (k17 : Nat → Int32 → Nat → Int32 → jH → Option (Unit × jH)) (hk17 : ∀ a0 a1 a2 a3 H, JV l mi_11_answerGive jeV 17 [(0, .ref a0), (1, .int a1), (2, .ref a2), (3, .int a3)] [] H (k17 a0 a1 a2 a3 H)) (a0 : Nat) (a1 : Int32) (a2 : Nat) (a3 : Int32) (H : jH) : JV l mi_11_answerGive jeV 17 [(0, .ref a0), (1, .int a1), (2, .ref a2), (3, .int a3)] [] H (B_11_answerGive_17 k17 a0 a1 a2 a3 H) := by
  unfold B_11_answerGive_17
  refine s_29 18 rfl rfl ?_
  refine s_16 32 20 32 jbp_32 rfl ?_
  refine s_96 21 rfl ?_
  refine s_44 22 rfl rfl ?_
  refine s_190 23 101 jm_101 rfl ?_
  refine s_162 0 147 170 26 rfl rfl ?_ ?_
  · exact s_177 rfl rfl
  · refine s_44 27 rfl rfl ?_
    refine s_29 28 rfl rfl ?_
    refine s_51B 29 rfl ?_
    refine s_4 30 rfl ?_
    refine s_160 0 17 47 33 rfl rfl ?_ ?_
    · refine s_1 48 rfl ?_
      exact s_jmp (v_11_answerGive_48 l k17 hk17 _ _ _ _ _ _) ⟨rfl, rfl, rfl, rfl, trivial⟩
    · refine s_42 34 rfl rfl ?_
      refine s_180R 0 68 37 68 f_11_13 jw_490 rfl rfl ?_
      refine s_44 38 rfl rfl ?_
      refine s_29 39 rfl rfl ?_
      refine s_4 40 rfl ?_
      refine s_96 41 rfl ?_
      refine s_182R 0 227 44 227 (m_6_find l _ _ _ _) rfl k_6_find jc_6 jw_1366 jw_821 jw_822 rfl rfl rfl rfl rfl (fun x18 h19 => ?_)
      refine s_167 0 4 48 rfl rfl ?_
      exact s_jmp (v_11_answerGive_48 l k17 hk17 _ _ _ _ _ _) ⟨rfl, rfl, rfl, rfl, trivial⟩
theorem w_11_answerGive_17 (l : Launch)  (n : Nat) : ∀ a0 a1 a2 a3 H, JV l mi_11_answerGive jeV 17 [(0, .ref a0), (1, .int a1), (2, .ref a2), (3, .int a3)] [] H (F_11_answerGive_17  n a0 a1 a2 a3 H) := by
  induction n with
  | zero => intro _ _ _ _ _; exact s_none
  | succ n ih => intro a0 a1 a2 a3 H; exact v_11_answerGive_17 l (F_11_answerGive_17  n) ih a0 a1 a2 a3 H
theorem v_11_answerGive (l : Launch) (a0 : Nat) (a1 : Int32) (a2 : Nat) (H : jH) : JV l mi_11_answerGive jeV 0 [(0, .ref a0), (1, .int a1), (2, .ref a2)] [] H (F_11_answerGive a0 a1 a2 H) := by
  unfold F_11_answerGive
  refine s_44 1 rfl rfl ?_
  refine s_184I 0 223 4 223 (m_11_isList l _ _) rfl k_11_isList jw_1363 jw_1364 rfl rfl rfl rfl rfl (fun x20 h21 => ?_)
  refine s_154 0 11 15 7 rfl rfl ?_ ?_
  · refine s_5 16 rfl ?_
    refine s_62 17 rfl rfl ?_
    exact s_jmp (w_11_answerGive_17 l jfuel _ _ _ _ _) ⟨rfl, rfl, rfl, rfl, trivial⟩
  · refine s_42 8 rfl rfl ?_
    refine s_27 9 rfl rfl ?_
    refine s_4 10 rfl ?_
    refine s_1 11 rfl ?_
    refine s_182V 0 134 14 134 (m_11_answerVerdict l _ _ _ _ _) rfl k_11_answerVerdict jc_11 jw_779 jw_781 jps_5 rfl rfl rfl rfl rfl (fun x22 h23 => ?_)
    exact s_177 rfl rfl
theorem m_11_answerGive (l : Launch) (a0 : Nat) (a1 : Int32) (a2 : Nat) (H : jH) : JMet l y_11_answerGive prog_1_method_18_code mi_11_answerGive jeV [.ref a0, .int a1, .ref a2] H (F_11_answerGive a0 a1 a2 H) := jmet_of n_11_answerGive (by decide) ⟨rfl, rfl⟩ (Nat.le_of_ble_eq_true rfl) (v_11_answerGive l a0 a1 a2 H)
