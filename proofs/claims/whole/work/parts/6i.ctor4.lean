/-! The reference: its plain objects, step by step (wip/gen/gen_ctor.py). -/
theorem k_12_init_422 {Hb : jH} {Q : Unit → jH → Prop} {H : jH} (hc : jcs 423 75211 398 Hb 421 H) (hk : ∀ H', jcs 427 75325 402 Hb 421 H' → Q () H') : jT (F_12_init 422 H) Q := by
  unfold F_12_init
  refine jT_g (by decide) ?_
  refine jT_g (by decide) ?_
  refine c_nw hc 64 424 75275 (by decide +kernel) fun H340 hc340 => ?_
  refine c_sR hc340 (c_K hc340 (by decide +kernel)) 422 0 423 399 rfl rfl rfl (by decide +kernel) fun H341 hc341 => ?_
  refine jT_g (by decide) ?_
  refine c_nw hc341 8 425 75283 (by decide +kernel) fun H342 hc342 => ?_
  refine c_sR hc342 (c_K hc342 (by decide +kernel)) 422 1 424 400 rfl rfl rfl (by decide +kernel) fun H343 hc343 => ?_
  refine jT_g (by decide) ?_
  refine c_nw hc343 10 426 75293 (by decide +kernel) fun H344 hc344 => ?_
  refine c_sR hc344 (c_K hc344 (by decide +kernel)) 422 2 425 401 rfl rfl rfl (by decide +kernel) fun H345 hc345 => ?_
  refine jT_g (by decide) ?_
  refine c_nw hc345 32 427 75325 (by decide +kernel) fun H346 hc346 => ?_
  refine c_sR hc346 (c_K hc346 (by decide +kernel)) 422 3 426 402 rfl rfl rfl (by decide +kernel) fun H347 hc347 => ?_
  exact jT_ret (hk _ hc347)

theorem k_14_init_437 {Hb : jH} {Q : Unit → jH → Prop} {H : jH} (hc : jcs 438 80039 414 Hb 421 H) (hk : ∀ H', jcs 445 97652 423 Hb 421 H' → Q () H') : jT (F_14_init 437 422 427 H) Q := by
  unfold F_14_init
  refine jT_g (by decide) ?_
  refine jT_g (by decide) ?_
  refine c_nw hc 16800 439 96839 (by decide +kernel) fun H378 hc378 => ?_
  refine c_sR hc378 (c_K hc378 (by decide +kernel)) 437 0 438 415 rfl rfl rfl (by decide +kernel) fun H379 hc379 => ?_
  refine jT_g (by decide) ?_
  refine c_nw hc379 140 440 96979 (by decide +kernel) fun H380 hc380 => ?_
  refine c_sR hc380 (c_K hc380 (by decide +kernel)) 437 1 439 416 rfl rfl rfl (by decide +kernel) fun H381 hc381 => ?_
  refine jT_g (by decide) ?_
  refine c_nw hc381 200 441 97179 (by decide +kernel) fun H382 hc382 => ?_
  refine c_sR hc382 (c_K hc382 (by decide +kernel)) 437 4 440 417 rfl rfl rfl (by decide +kernel) fun H383 hc383 => ?_
  refine jT_g (by decide) ?_
  refine c_nw hc383 201 442 97380 (by decide +kernel) fun H384 hc384 => ?_
  refine c_sR hc384 (c_K hc384 (by decide +kernel)) 437 10 441 418 rfl rfl rfl (by decide +kernel) fun H385 hc385 => ?_
  refine jT_g (by decide) ?_
  refine c_nw hc385 120 443 97500 (by decide +kernel) fun H386 hc386 => ?_
  refine c_sR hc386 (c_K hc386 (by decide +kernel)) 437 12 442 419 rfl rfl rfl (by decide +kernel) fun H387 hc387 => ?_
  refine jT_g (by decide) ?_
  refine c_nw hc387 120 444 97620 (by decide +kernel) fun H388 hc388 => ?_
  refine c_sR hc388 (c_K hc388 (by decide +kernel)) 437 13 443 420 rfl rfl rfl (by decide +kernel) fun H389 hc389 => ?_
  refine jT_g (by decide) ?_
  refine c_nw hc389 32 445 97652 (by decide +kernel) fun H390 hc390 => ?_
  refine c_sR hc390 (c_K hc390 (by decide +kernel)) 437 14 444 421 rfl rfl rfl (by decide +kernel) fun H391 hc391 => ?_
  refine c_sR hc391 (c_K hc391 (by decide +kernel)) 437 15 422 422 rfl rfl rfl (by decide +kernel) fun H392 hc392 => ?_
  refine c_sR hc392 (c_K hc392 (by decide +kernel)) 437 16 427 423 rfl rfl rfl (by decide +kernel) fun H393 hc393 => ?_
  exact jT_ret (hk _ hc393)

theorem k_17_init_456 {Hb : jH} {Q : Unit → jH → Prop} {H : jH} (hc : jcs 457 111310 435 Hb 456 H) (hk : ∀ H', jcs 465 111374 443 Hb 456 H' → Q () H') : jT (F_17_init 456 H) Q := by
  unfold F_17_init
  refine jT_g (by decide) ?_
  refine jT_g (by decide) ?_
  refine c_nw hc 8 458 111318 (by decide +kernel) fun H420 hc420 => ?_
  refine c_sR hc420 (c_K hc420 (by decide +kernel)) 456 7 457 436 rfl rfl rfl (by decide +kernel) fun H421 hc421 => ?_
  refine jT_g (by decide) ?_
  refine c_nw hc421 8 459 111326 (by decide +kernel) fun H422 hc422 => ?_
  refine c_sR hc422 (c_K hc422 (by decide +kernel)) 456 8 458 437 rfl rfl rfl (by decide +kernel) fun H423 hc423 => ?_
  refine jT_g (by decide) ?_
  refine c_nw hc423 8 460 111334 (by decide +kernel) fun H424 hc424 => ?_
  refine c_sR hc424 (c_K hc424 (by decide +kernel)) 456 9 459 438 rfl rfl rfl (by decide +kernel) fun H425 hc425 => ?_
  refine jT_g (by decide) ?_
  refine c_nw hc425 8 461 111342 (by decide +kernel) fun H426 hc426 => ?_
  refine c_sR hc426 (c_K hc426 (by decide +kernel)) 456 10 460 439 rfl rfl rfl (by decide +kernel) fun H427 hc427 => ?_
  refine jT_g (by decide) ?_
  refine c_nw hc427 8 462 111350 (by decide +kernel) fun H428 hc428 => ?_
  refine c_sR hc428 (c_K hc428 (by decide +kernel)) 456 11 461 440 rfl rfl rfl (by decide +kernel) fun H429 hc429 => ?_
  refine jT_g (by decide) ?_
  refine c_nw hc429 8 463 111358 (by decide +kernel) fun H430 hc430 => ?_
  refine c_sR hc430 (c_K hc430 (by decide +kernel)) 456 12 462 441 rfl rfl rfl (by decide +kernel) fun H431 hc431 => ?_
  refine jT_g (by decide) ?_
  refine c_nw hc431 8 464 111366 (by decide +kernel) fun H432 hc432 => ?_
  refine c_sR hc432 (c_K hc432 (by decide +kernel)) 456 13 463 442 rfl rfl rfl (by decide +kernel) fun H433 hc433 => ?_
  refine jT_g (by decide) ?_
  refine c_nw hc433 8 465 111374 (by decide +kernel) fun H434 hc434 => ?_
  refine c_sR hc434 (c_K hc434 (by decide +kernel)) 456 14 464 443 rfl rfl rfl (by decide +kernel) fun H435 hc435 => ?_
  exact jT_ret (hk _ hc435)

theorem k_17_init_465 {Hb : jH} {Q : Unit → jH → Prop} {H : jH} (hc : jcs 466 111389 444 Hb 456 H) (hk : ∀ H', jcs 474 111453 452 Hb 456 H' → Q () H') : jT (F_17_init 465 H) Q := by
  unfold F_17_init
  refine jT_g (by decide) ?_
  refine jT_g (by decide) ?_
  refine c_nw hc 8 467 111397 (by decide +kernel) fun H439 hc439 => ?_
  refine c_sR hc439 (c_K hc439 (by decide +kernel)) 465 7 466 445 rfl rfl rfl (by decide +kernel) fun H440 hc440 => ?_
  refine jT_g (by decide) ?_
  refine c_nw hc440 8 468 111405 (by decide +kernel) fun H441 hc441 => ?_
  refine c_sR hc441 (c_K hc441 (by decide +kernel)) 465 8 467 446 rfl rfl rfl (by decide +kernel) fun H442 hc442 => ?_
  refine jT_g (by decide) ?_
  refine c_nw hc442 8 469 111413 (by decide +kernel) fun H443 hc443 => ?_
  refine c_sR hc443 (c_K hc443 (by decide +kernel)) 465 9 468 447 rfl rfl rfl (by decide +kernel) fun H444 hc444 => ?_
  refine jT_g (by decide) ?_
  refine c_nw hc444 8 470 111421 (by decide +kernel) fun H445 hc445 => ?_
  refine c_sR hc445 (c_K hc445 (by decide +kernel)) 465 10 469 448 rfl rfl rfl (by decide +kernel) fun H446 hc446 => ?_
  refine jT_g (by decide) ?_
  refine c_nw hc446 8 471 111429 (by decide +kernel) fun H447 hc447 => ?_
  refine c_sR hc447 (c_K hc447 (by decide +kernel)) 465 11 470 449 rfl rfl rfl (by decide +kernel) fun H448 hc448 => ?_
  refine jT_g (by decide) ?_
  refine c_nw hc448 8 472 111437 (by decide +kernel) fun H449 hc449 => ?_
  refine c_sR hc449 (c_K hc449 (by decide +kernel)) 465 12 471 450 rfl rfl rfl (by decide +kernel) fun H450 hc450 => ?_
  refine jT_g (by decide) ?_
  refine c_nw hc450 8 473 111445 (by decide +kernel) fun H451 hc451 => ?_
  refine c_sR hc451 (c_K hc451 (by decide +kernel)) 465 13 472 451 rfl rfl rfl (by decide +kernel) fun H452 hc452 => ?_
  refine jT_g (by decide) ?_
  refine c_nw hc452 8 474 111453 (by decide +kernel) fun H453 hc453 => ?_
  refine c_sR hc453 (c_K hc453 (by decide +kernel)) 465 14 473 452 rfl rfl rfl (by decide +kernel) fun H454 hc454 => ?_
  exact jT_ret (hk _ hc454)
