/-! ===== where the things of the other one lie ===== -/
theorem m_0 : qm_rf 367 0 = 368 := by decide +kernel
theorem m_1 : qm_rf 367 1 = 369 := by decide +kernel
theorem m_3 : qm_rf 367 3 = 370 := by decide +kernel
theorem m_4 : qm_rf 367 4 = 371 := by decide +kernel
theorem m_5 : qm_rf 367 5 = 372 := by decide +kernel
theorem m_6 : qm_rf 367 6 = 373 := by decide +kernel
theorem m_7 : qm_rf 367 7 = 374 := by decide +kernel
theorem m_8 : qm_rf 367 8 = 375 := by decide +kernel
theorem m_9 : qm_rf 367 9 = 376 := by decide +kernel
theorem m_10 : qm_rf 367 10 = 377 := by decide +kernel
theorem m_11 : qm_rf 367 11 = 378 := by decide +kernel
theorem m_12 : qm_rf 367 12 = 379 := by decide +kernel
theorem m_14 : qm_rf 367 14 = 380 := by decide +kernel
theorem m_15 : qm_rf 367 15 = 381 := by decide +kernel
theorem m_17 : qm_rf 367 17 = 382 := by decide +kernel
theorem m_18 : qm_rf 367 18 = 383 := by decide +kernel
theorem m_19 : qm_rf 367 19 = 384 := by decide +kernel
theorem m_20 : qm_rf 367 20 = 385 := by decide +kernel
theorem m_21 : qm_rf 367 21 = 386 := by decide +kernel
theorem m_22 : qm_rf 367 22 = 387 := by decide +kernel
theorem m_23 : qm_rf 367 23 = 388 := by decide +kernel
theorem m_24 : qm_rf 367 24 = 389 := by decide +kernel
theorem m_25 : qm_rf 367 25 = 390 := by decide +kernel
theorem m_26 : qm_rf 367 26 = 391 := by decide +kernel
theorem m_27 : qm_rf 367 27 = 392 := by decide +kernel
theorem m_28 : qm_rf 367 28 = 393 := by decide +kernel
theorem m_29 : qm_rf 367 29 = 394 := by decide +kernel
theorem m_30 : qm_rf 367 30 = 395 := by decide +kernel
theorem m_31 : qm_rf 367 31 = 396 := by decide +kernel
theorem m_38 : qm_rf 367 38 = 397 := by decide +kernel
theorem m_39 : qm_rf 367 39 = 398 := by decide +kernel
theorem m_40 : qm_rf 367 40 = 399 := by decide +kernel
theorem m_41 : qm_rf 367 41 = 400 := by decide +kernel
theorem m_42 : qm_rf 367 42 = 401 := by decide +kernel
theorem m_43 : qm_rf 367 43 = 402 := by decide +kernel
theorem m_44 : qm_rf 367 44 = 403 := by decide +kernel
theorem m_50 : qm_rf 367 50 = 404 := by decide +kernel
theorem l_368 : iLen 368 = 265 := by decide +kernel
theorem l_369 : iLen 369 = 2650 := by decide +kernel
theorem l_370 : iLen 370 = 530 := by decide +kernel
theorem l_371 : iLen 371 = 2 := by decide +kernel
theorem l_372 : iLen 372 = 265 := by decide +kernel
theorem l_373 : iLen 373 = 91 := by decide +kernel
theorem l_374 : iLen 374 = 91 := by decide +kernel
theorem l_375 : iLen 375 = 91 := by decide +kernel
theorem l_376 : iLen 376 = 91 := by decide +kernel
theorem l_377 : iLen 377 = 91 := by decide +kernel
theorem l_378 : iLen 378 = 91 := by decide +kernel
theorem l_379 : iLen 379 = 91 := by decide +kernel
theorem l_380 : iLen 380 = 18 := by decide +kernel
theorem l_381 : iLen 381 = 18 := by decide +kernel
theorem l_382 : iLen 382 = 17 := by decide +kernel
theorem l_383 : iLen 383 = 92 := by decide +kernel
theorem l_384 : iLen 384 = 92 := by decide +kernel
theorem l_385 : iLen 385 = 92 := by decide +kernel
theorem l_386 : iLen 386 = 92 := by decide +kernel
theorem l_387 : iLen 387 = 552 := by decide +kernel
theorem l_388 : iLen 388 = 300 := by decide +kernel
theorem l_389 : iLen 389 = 300 := by decide +kernel
theorem l_390 : iLen 390 = 300 := by decide +kernel
theorem l_391 : iLen 391 = 300 := by decide +kernel
theorem l_392 : iLen 392 = 300 := by decide +kernel
theorem l_393 : iLen 393 = 300 := by decide +kernel
theorem l_394 : iLen 394 = 300 := by decide +kernel
theorem l_395 : iLen 395 = 300 := by decide +kernel
theorem l_396 : iLen 396 = 300 := by decide +kernel
theorem l_397 : iLen 397 = 17 := by decide +kernel
theorem l_398 : iLen 398 = 17 := by decide +kernel
theorem l_399 : iLen 399 = 92 := by decide +kernel
theorem l_400 : iLen 400 = 92 := by decide +kernel
theorem l_401 : iLen 401 = 1840 := by decide +kernel
theorem l_402 : iLen 402 = 1840 := by decide +kernel
theorem l_403 : iLen 403 = 400 := by decide +kernel
theorem l_404 : iLen 404 = 265 := by decide +kernel
