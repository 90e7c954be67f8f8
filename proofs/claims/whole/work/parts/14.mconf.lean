/-! The reference: its names (500: the object, then its arrays) and their kinds. -/
def kdML : List (Nat × Nat) := [(0, 12), (1, 1000), (1, 12), (4, 32), (4, 10), (1, 20), (1, 20), (1, 20), (1, 20), (1, 20), (1, 20), (1, 20), (1, 10), (1, 10), (1, 10), (1, 12), (1, 12), (1, 80), (1, 8), (1, 8), (1, 8), (1, 4), (1, 4), (1, 2000), (1, 7), (3, 7), (1, 7), (1, 7), (1, 7), (1, 7), (1, 7), (1, 7), (1, 7), (1, 7), (1, 7), (1, 20), (1, 256), (1, 256), (1, 256), (3, 256), (1, 8), (1, 8), (1, 81), (1, 6), (1, 240), (1, 240), (1, 240), (1, 5), (1, 5), (1, 5), (1, 60), (1, 60), (3, 60), (1, 15), (1, 15), (1, 60), (1, 240), (3, 4), (1, 80), (1, 80), (1, 80), (1, 30), (1, 59100), (1, 32768), (1, 10), (1, 4), (1, 4)]
def kdM (a : Nat) : Nat × Nat := if a < 500 then (99, 0) else kdML.getD (a - 500) (99, 0)
def finML : List Nat := [0, 0, 1, 0, 0, 0, 0, 0, 0, 0, 2, 3, 4, 5, 6, 7, 8, 9, 10, 11, 12, 13, 14, 15, 16, 17, 18, 19, 20, 21, 22, 23, 0, 0, 24, 25, 26, 27, 28, 29, 30, 31, 32, 33, 34, 35, 0, 36, 37, 38, 39, 40, 41, 42, 43, 44, 45, 46, 47, 48, 49, 50, 51, 52, 53, 54, 55, 56, 57, 0, 0, 0, 0, 0, 58, 59, 60, 0, 61, 0, 62, 63, 64, 65, 66, 0, 0]
def finM (_ a k : Nat) : Option Nat := match finML.getD k 0 with | 0 => none | o => some (a + o)
def KM : Cfg := (kdM, finM, fun _ _ _ => none)
theorem mx_2401 : mX 2401 = some ((⟨kN 12, "thrown", "()I"⟩, prog_15_method_2_code, 1, some .int, 12), cd_2401) := rfl
theorem mx_2402 : mX 2402 = some ((⟨kN 12, "within", "(III)Z"⟩, prog_15_method_3_code, 3, some .boolean, 12), cd_2402) := rfl
theorem mx_2403 : mX 2403 = some ((⟨kN 12, "between", "(III)I"⟩, prog_15_method_4_code, 3, some .int, 12), cd_2403) := rfl
theorem mx_2404 : mX 2404 = some ((⟨kN 12, "away", "(II)I"⟩, prog_15_method_5_code, 2, some .int, 12), cd_2404) := rfl
theorem mx_2405 : mX 2405 = some ((⟨kN 12, "bits", "(I)I"⟩, prog_15_method_6_code, 3, some .int, 12), cd_2405) := rfl
theorem mx_2406 : mX 2406 = some ((⟨kN 12, "feed", "(JJJ)I"⟩, prog_15_method_7_code, 11, some .int, 12), cd_2406) := rfl
theorem mx_2407 : mX 2407 = some ((⟨kN 12, "signAt", "(I)I"⟩, prog_15_method_8_code, 2, some .int, 12), cd_2407) := rfl
theorem mx_2408 : mX 2408 = some ((⟨kN 12, "nextToken", "()V"⟩, prog_15_method_9_code, 2, none, 12), cd_2408) := rfl
theorem mx_2409 : mX 2409 = some ((⟨kN 12, "isWord", "(J)Z"⟩, prog_15_method_10_code, 3, some .boolean, 12), cd_2409) := rfl
theorem mx_2410 : mX 2410 = some ((⟨kN 12, "isSign", "(I)Z"⟩, prog_15_method_11_code, 2, some .boolean, 12), cd_2410) := rfl
theorem mx_2411 : mX 2411 = some ((⟨kN 12, "fails", "(I)Z"⟩, prog_15_method_12_code, 2, some .boolean, 12), cd_2411) := rfl
theorem mx_2412 : mX 2412 = some ((⟨kN 12, "puts", "(I)V"⟩, prog_15_method_13_code, 2, none, 12), cd_2412) := rfl
theorem mx_2413 : mX 2413 = some ((⟨kN 12, "fact", "()I"⟩, prog_15_method_14_code, 1, some .int, 12), cd_2413) := rfl
theorem mx_2414 : mX 2414 = some ((⟨kN 12, "reads", "()Z"⟩, prog_15_method_15_code, 6, some .boolean, 12), cd_2414) := rfl
theorem mx_2415 : mX 2415 = some ((⟨kN 12, "opens", "(I)V"⟩, prog_15_method_16_code, 2, none, 12), cd_2415) := rfl
theorem mx_2416 : mX 2416 = some ((⟨kN 12, "sums", "(I)V"⟩, prog_15_method_17_code, 2, none, 12), cd_2416) := rfl
theorem mx_2417 : mX 2417 = some ((⟨kN 12, "tests", "(I)V"⟩, prog_15_method_18_code, 3, none, 12), cd_2417) := rfl
theorem mx_2418 : mX 2418 = some ((⟨kN 12, "worked", "(I)I"⟩, prog_15_method_19_code, 6, some .int, 12), cd_2418) := rfl
theorem mx_2419 : mX 2419 = some ((⟨kN 12, "isKept", "()Z"⟩, prog_15_method_20_code, 1, some .boolean, 12), cd_2419) := rfl
theorem mx_2420 : mX 2420 = some ((⟨kN 12, "soundNamed", "(I)I"⟩, prog_15_method_21_code, 3, some .int, 12), cd_2420) := rfl
theorem mx_2421 : mX 2421 = some ((⟨kN 12, "personNamed", "(I)I"⟩, prog_15_method_22_code, 3, some .int, 12), cd_2421) := rfl
theorem mx_2422 : mX 2422 = some ((⟨kN 12, "appleNamed", "(I)I"⟩, prog_15_method_23_code, 4, some .int, 12), cd_2422) := rfl
theorem mx_2423 : mX 2423 = some ((⟨kN 12, "needsNumber", "(II)Z"⟩, prog_15_method_24_code, 3, some .boolean, 12), cd_2423) := rfl
theorem mx_2424 : mX 2424 = some ((⟨kN 12, "needsWord", "(J)Z"⟩, prog_15_method_25_code, 3, some .boolean, 12), cd_2424) := rfl
theorem mx_2425 : mX 2425 = some ((⟨kN 12, "needsBoth", "(JII)Z"⟩, prog_15_method_26_code, 5, some .boolean, 12), cd_2425) := rfl
theorem mx_2426 : mX 2426 = some ((⟨kN 12, "closes", "()Z"⟩, prog_15_method_27_code, 1, some .boolean, 12), cd_2426) := rfl
theorem mx_2427 : mX 2427 = some ((⟨kN 12, "isNew", "()Z"⟩, prog_15_method_28_code, 1, some .boolean, 12), cd_2427) := rfl
theorem mx_2428 : mX 2428 = some ((⟨kN 12, "needsSound", "(I)Z"⟩, prog_15_method_29_code, 2, some .boolean, 12), cd_2428) := rfl
theorem mx_2429 : mX 2429 = some ((⟨kN 12, "needsApple", "(I)Z"⟩, prog_15_method_30_code, 2, some .boolean, 12), cd_2429) := rfl
theorem mx_2430 : mX 2430 = some ((⟨kN 12, "takesSound", "(J)V"⟩, prog_15_method_31_code, 3, none, 12), cd_2430) := rfl
theorem mx_2431 : mX 2431 = some ((⟨kN 12, "readsApple", "()Z"⟩, prog_15_method_32_code, 4, some .boolean, 12), cd_2431) := rfl
theorem mx_2432 : mX 2432 = some ((⟨kN 12, "readsTwin", "()Z"⟩, prog_15_method_33_code, 3, some .boolean, 12), cd_2432) := rfl
theorem mx_2433 : mX 2433 = some ((⟨kN 12, "readsOther", "()Z"⟩, prog_15_method_34_code, 1, some .boolean, 12), cd_2433) := rfl
theorem mx_2434 : mX 2434 = some ((⟨kN 12, "firstLetter", "(J)I"⟩, prog_15_method_35_code, 4, some .int, 12), cd_2434) := rfl
theorem mx_2435 : mX 2435 = some ((⟨kN 12, "readsPerson", "()Z"⟩, prog_15_method_36_code, 4, some .boolean, 12), cd_2435) := rfl
theorem mx_2436 : mX 2436 = some ((⟨kN 12, "readsStranger", "()Z"⟩, prog_15_method_37_code, 3, some .boolean, 12), cd_2436) := rfl
theorem mx_2437 : mX 2437 = some ((⟨kN 12, "readsPage", "()Z"⟩, prog_15_method_38_code, 3, some .boolean, 12), cd_2437) := rfl
theorem mx_2438 : mX 2438 = some ((⟨kN 12, "readsBann", "()Z"⟩, prog_15_method_39_code, 2, some .boolean, 12), cd_2438) := rfl
theorem mx_2439 : mX 2439 = some ((⟨kN 12, "readsLaw", "(I)Z"⟩, prog_15_method_40_code, 2, some .boolean, 12), cd_2439) := rfl
theorem mx_2440 : mX 2440 = some ((⟨kN 12, "starts", "()V"⟩, prog_15_method_41_code, 1, none, 12), cd_2440) := rfl
theorem mx_2441 : mX 2441 = some ((⟨kN 12, "readsAll", "()Z"⟩, prog_15_method_42_code, 2, some .boolean, 12), cd_2441) := rfl
theorem mx_2442 : mX 2442 = some ((⟨kN 12, "moves", "([II)V"⟩, prog_15_method_43_code, 3, none, 12), cd_2442) := rfl
theorem mx_2443 : mX 2443 = some ((⟨kN 12, "movesNames", "([JI)V"⟩, prog_15_method_44_code, 3, none, 12), cd_2443) := rfl
theorem mx_2445 : mX 2445 = some ((⟨kN 12, "spells", "(J[I)I"⟩, prog_15_method_46_code, 7, some .int, 12), cd_2445) := rfl
theorem mx_2600 : mX 2600 = some ((⟨kN 13, "min", "(II)I"⟩, prog_22_method_69_code, 2, some .int, 13), cd_2600) := rfl
theorem mx_2446 : mX 2446 = some ((⟨kN 12, "compares", "(II)V"⟩, prog_15_method_47_code, 9, none, 12), cd_2446) := rfl
theorem mx_2444 : mX 2444 = some ((⟨kN 12, "lays", "()V"⟩, prog_15_method_45_code, 3, none, 12), cd_2444) := rfl
theorem mx_2447 : mX 2447 = some ((⟨kN 12, "isSaid", "(II)Z"⟩, prog_15_method_48_code, 5, some .boolean, 12), cd_2447) := rfl
theorem mx_2448 : mX 2448 = some ((⟨kN 12, "copies", "([II[II)V"⟩, prog_15_method_49_code, 5, none, 12), cd_2448) := rfl
theorem mx_2449 : mX 2449 = some ((⟨kN 12, "readsLine", "()Z"⟩, prog_15_method_50_code, 3, some .boolean, 12), cd_2449) := rfl
theorem mx_2450 : mX 2450 = some ((⟨kN 12, "laysLines", "(II)V"⟩, prog_15_method_51_code, 4, none, 12), cd_2450) := rfl
theorem mx_2451 : mX 2451 = some ((⟨kN 12, "laysTold", "(II)V"⟩, prog_15_method_52_code, 4, none, 12), cd_2451) := rfl
theorem mx_2452 : mX 2452 = some ((⟨kN 12, "fresh", "()V"⟩, prog_15_method_53_code, 2, none, 12), cd_2452) := rfl
theorem mx_2453 : mX 2453 = some ((⟨kN 12, "orchard", "()I"⟩, prog_15_method_54_code, 2, some .int, 12), cd_2453) := rfl
theorem mx_2454 : mX 2454 = some ((⟨kN 12, "days", "()I"⟩, prog_15_method_55_code, 1, some .int, 12), cd_2454) := rfl
theorem mx_2455 : mX 2455 = some ((⟨kN 12, "isApple", "(I)Z"⟩, prog_15_method_56_code, 2, some .boolean, 12), cd_2455) := rfl
theorem mx_2456 : mX 2456 = some ((⟨kN 12, "isSound", "(I)Z"⟩, prog_15_method_57_code, 2, some .boolean, 12), cd_2456) := rfl
theorem mx_2457 : mX 2457 = some ((⟨kN 12, "isPerson", "(I)Z"⟩, prog_15_method_58_code, 2, some .boolean, 12), cd_2457) := rfl
theorem mx_2458 : mX 2458 = some ((⟨kN 12, "hangs", "(I)Z"⟩, prog_15_method_59_code, 2, some .boolean, 12), cd_2458) := rfl
theorem mx_2459 : mX 2459 = some ((⟨kN 12, "valueOn", "(II)I"⟩, prog_15_method_60_code, 4, some .int, 12), cd_2459) := rfl
theorem mx_2460 : mX 2460 = some ((⟨kN 12, "apple", "(II)I"⟩, prog_15_method_61_code, 3, some .int, 12), cd_2460) := rfl
theorem mx_2461 : mX 2461 = some ((⟨kN 12, "near", "(III)I"⟩, prog_15_method_62_code, 5, some .int, 12), cd_2461) := rfl
theorem mx_2462 : mX 2462 = some ((⟨kN 12, "says", "(II)I"⟩, prog_15_method_63_code, 3, some .int, 12), cd_2462) := rfl
theorem mx_2463 : mX 2463 = some ((⟨kN 12, "soundsLike", "(II)Z"⟩, prog_15_method_64_code, 3, some .boolean, 12), cd_2463) := rfl
theorem mx_2464 : mX 2464 = some ((⟨kN 12, "hears", "(III)V"⟩, prog_15_method_65_code, 6, none, 12), cd_2464) := rfl
theorem mx_2465 : mX 2465 = some ((⟨kN 12, "welsh", "()I"⟩, prog_15_method_66_code, 3, some .int, 12), cd_2465) := rfl
theorem mx_2466 : mX 2466 = some ((⟨kN 12, "fallsBy", "(IIII)I"⟩, prog_15_method_67_code, 9, some .int, 12), cd_2466) := rfl
theorem mx_2467 : mX 2467 = some ((⟨kN 12, "worthOf", "(II)I"⟩, prog_15_method_68_code, 5, some .int, 12), cd_2467) := rfl
theorem mx_2468 : mX 2468 = some ((⟨kN 12, "calls", "(III)I"⟩, prog_15_method_69_code, 5, some .int, 12), cd_2468) := rfl
theorem mx_2469 : mX 2469 = some ((⟨kN 12, "falls", "(II)I"⟩, prog_15_method_70_code, 3, some .int, 12), cd_2469) := rfl
theorem mx_2470 : mX 2470 = some ((⟨kN 12, "keeps", "()V"⟩, prog_15_method_71_code, 2, none, 12), cd_2470) := rfl
theorem mx_2471 : mX 2471 = some ((⟨kN 12, "call", "(II)I"⟩, prog_15_method_72_code, 3, some .int, 12), cd_2471) := rfl
theorem mx_2472 : mX 2472 = some ((⟨kN 12, "canPick", "(I)Z"⟩, prog_15_method_73_code, 2, some .boolean, 12), cd_2472) := rfl
theorem mx_2473 : mX 2473 = some ((⟨kN 12, "picks", "(I)I"⟩, prog_15_method_74_code, 3, some .int, 12), cd_2473) := rfl
theorem mx_2474 : mX 2474 = some ((⟨kN 12, "pick", "(I)I"⟩, prog_15_method_75_code, 2, some .int, 12), cd_2474) := rfl
theorem mx_2475 : mX 2475 = some ((⟨kN 12, "isFree", "(II)Z"⟩, prog_15_method_76_code, 4, some .boolean, 12), cd_2475) := rfl
theorem mx_2476 : mX 2476 = some ((⟨kN 12, "christen", "(II)Z"⟩, prog_15_method_77_code, 3, some .boolean, 12), cd_2476) := rfl
theorem mx_2477 : mX 2477 = some ((⟨kN 12, "passes", "()V"⟩, prog_15_method_78_code, 1, none, 12), cd_2477) := rfl
theorem mx_2478 : mX 2478 = some ((⟨kN 12, "pass", "(I)I"⟩, prog_15_method_79_code, 3, some .int, 12), cd_2478) := rfl
theorem mx_2479 : mX 2479 = some ((⟨kN 12, "undo", "()Z"⟩, prog_15_method_80_code, 1, some .boolean, 12), cd_2479) := rfl
theorem mx_2480 : mX 2480 = some ((⟨kN 12, "greenOf", "(I)I"⟩, prog_15_method_81_code, 4, some .int, 12), cd_2480) := rfl
theorem mx_2481 : mX 2481 = some ((⟨kN 12, "goes", "(I)Z"⟩, prog_15_method_82_code, 2, some .boolean, 12), cd_2481) := rfl
theorem mx_2482 : mX 2482 = some ((⟨kN 12, "judged", "(I)I"⟩, prog_15_method_83_code, 5, some .int, 12), cd_2482) := rfl
theorem mx_2483 : mX 2483 = some ((⟨kN 12, "laysCalls", "()V"⟩, prog_15_method_84_code, 3, none, 12), cd_2483) := rfl
theorem mx_2484 : mX 2484 = some ((⟨kN 12, "cropWorth", "(II)I"⟩, prog_15_method_85_code, 5, some .int, 12), cd_2484) := rfl
theorem mx_2485 : mX 2485 = some ((⟨kN 12, "cropOf", "(IIIIZ)I"⟩, prog_15_method_86_code, 10, some .int, 12), cd_2485) := rfl
theorem mx_2486 : mX 2486 = some ((⟨kN 12, "crop", "(II)I"⟩, prog_15_method_87_code, 4, some .int, 12), cd_2486) := rfl
theorem mx_2487 : mX 2487 = some ((⟨kN 12, "meets", "(I)Z"⟩, prog_15_method_88_code, 2, some .boolean, 12), cd_2487) := rfl
theorem mx_2488 : mX 2488 = some ((⟨kN 12, "deaf", "()I"⟩, prog_15_method_89_code, 3, some .int, 12), cd_2488) := rfl
theorem mx_2489 : mX 2489 = some ((⟨kN 12, "fetch", "()I"⟩, prog_15_method_90_code, 11, some .int, 12), cd_2489) := rfl
theorem mx_2490 : mX 2490 = some ((⟨kN 12, "lies", "(IZ)Z"⟩, prog_15_method_91_code, 3, some .boolean, 12), cd_2490) := rfl
theorem mx_2491 : mX 2491 = some ((⟨kN 12, "called", "(I)I"⟩, prog_15_method_92_code, 9, some .int, 12), cd_2491) := rfl
theorem mx_2492 : mX 2492 = some ((⟨kN 12, "tell", "(IIZ)Z"⟩, prog_15_method_93_code, 4, some .boolean, 12), cd_2492) := rfl
theorem mx_2493 : mX 2493 = some ((⟨kN 12, "isLaw", "(II)Z"⟩, prog_15_method_94_code, 5, some .boolean, 12), cd_2493) := rfl
theorem mx_2494 : mX 2494 = some ((⟨kN 12, "laws", "(I)I"⟩, prog_15_method_95_code, 7, some .int, 12), cd_2494) := rfl
theorem mx_2495 : mX 2495 = some ((⟨kN 12, "lossOf", "(I)I"⟩, prog_15_method_96_code, 7, some .int, 12), cd_2495) := rfl
theorem mx_2496 : mX 2496 = some ((⟨kN 12, "loss", "(I)I"⟩, prog_15_method_97_code, 2, some .int, 12), cd_2496) := rfl
theorem mx_2497 : mX 2497 = some ((⟨kN 12, "best", "(II)I"⟩, prog_15_method_98_code, 8, some .int, 12), cd_2497) := rfl
theorem mx_2498 : mX 2498 = some ((⟨kN 12, "thiefOf", "(III)I"⟩, prog_15_method_99_code, 10, some .int, 12), cd_2498) := rfl
theorem mx_2499 : mX 2499 = some ((⟨kN 12, "isVoice", "(II)Z"⟩, prog_15_method_100_code, 2, some .boolean, 12), cd_2499) := rfl
theorem mx_2500 : mX 2500 = some ((⟨kN 12, "thief", "(III)I"⟩, prog_15_method_101_code, 4, some .int, 12), cd_2500) := rfl
theorem mx_2601 : mX 2601 = some ((⟨kN 13, "max", "(II)I"⟩, prog_22_method_65_code, 2, some .int, 13), cd_2601) := rfl
theorem mx_2501 : mX 2501 = some ((⟨kN 12, "hide", "(II)I"⟩, prog_15_method_102_code, 8, some .int, 12), cd_2501) := rfl
theorem mx_2502 : mX 2502 = some ((⟨kN 12, "reads0", "(IIIIIII)V"⟩, prog_15_method_103_code, 14, none, 12), cd_2502) := rfl
theorem mx_2503 : mX 2503 = some ((⟨kN 12, "banns", "(III)I"⟩, prog_15_method_104_code, 4, some .int, 12), cd_2503) := rfl
theorem mx_2504 : mX 2504 = some ((⟨kN 12, "draws", "(I)I"⟩, prog_15_method_105_code, 2, some .int, 12), cd_2504) := rfl
theorem mx_2505 : mX 2505 = some ((⟨kN 12, "livesDay", "()I"⟩, prog_15_method_106_code, 4, some .int, 12), cd_2505) := rfl
theorem mx_2506 : mX 2506 = some ((⟨kN 12, "years", "(III)I"⟩, prog_15_method_107_code, 6, some .int, 12), cd_2506) := rfl
theorem mx_2507 : mX 2507 = some ((⟨kN 12, "mark", "(IZ)Z"⟩, prog_15_method_108_code, 5, some .boolean, 12), cd_2507) := rfl
theorem mx_2508 : mX 2508 = some ((⟨kN 12, "count", "(I)I"⟩, prog_15_method_109_code, 2, some .int, 12), cd_2508) := rfl
