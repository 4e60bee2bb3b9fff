/-! the law's own instructions -/
theorem dL_law_2455 : decode cL_law 2455 = .ok (.istore 6, 2) := by decide +kernel
theorem dL_law_2457 : decode cL_law 2457 = .ok (.aload_n 2, 1) := by decide +kernel
theorem dL_law_2458 : decode cL_law 2458 = .ok (.invokevirtual 156, 3) := by decide +kernel
theorem dL_law_2461 : decode cL_law 2461 = .ok (.iload 5, 2) := by decide +kernel
theorem dL_law_2463 : decode cL_law 2463 = .ok (.if_icmp .eq 5, 3) := by decide +kernel
theorem dL_law_2468 : decode cL_law 2468 = .ok (.iload 5, 2) := by decide +kernel
theorem dL_law_2470 : decode cL_law 2470 = .ok (.ifCond .ne 15, 3) := by decide +kernel
theorem dL_law_2473 : decode cL_law 2473 = .ok (.aload_n 3, 1) := by decide +kernel
theorem dL_law_2474 : decode cL_law 2474 = .ok (.iconst 0, 1) := by decide +kernel
theorem dL_law_2475 : decode cL_law 2475 = .ok (.laload, 1) := by decide +kernel
theorem dL_law_2476 : decode cL_law 2476 = .ok (.iload 6, 2) := by decide +kernel
theorem dL_law_2478 : decode cL_law 2478 = .ok (.i2l, 1) := by decide +kernel
theorem dL_law_2479 : decode cL_law 2479 = .ok (.lcmp, 1) := by decide +kernel
theorem dL_law_2480 : decode cL_law 2480 = .ok (.ifCond .eq 5, 3) := by decide +kernel
theorem dL_law_2485 : decode cL_law 2485 = .ok (.goto 531, 3) := by decide +kernel
theorem dL_law_2488 : decode cL_law 2488 = .ok (.aload_n 1, 1) := by decide +kernel
theorem dL_law_2489 : decode cL_law 2489 = .ok (.invokevirtual 276, 3) := by decide +kernel
theorem dL_law_2492 : decode cL_law 2492 = .ok (.aload_n 2, 1) := by decide +kernel
theorem dL_law_2493 : decode cL_law 2493 = .ok (.invokevirtual 280, 3) := by decide +kernel
theorem dL_law_2496 : decode cL_law 2496 = .ok (.if_icmp .eq 520, 3) := by decide +kernel
theorem dL_law_2501 : decode cL_law 2501 = .ok (.aload_n 1, 1) := by decide +kernel
theorem dL_law_2502 : decode cL_law 2502 = .ok (.aload_n 0, 1) := by decide +kernel
theorem dL_law_2503 : decode cL_law 2503 = .ok (.iload 4, 2) := by decide +kernel
theorem dL_law_2505 : decode cL_law 2505 = .ok (.iconst 1, 1) := by decide +kernel
theorem dL_law_2506 : decode cL_law 2506 = .ok (.iadd, 1) := by decide +kernel
theorem dL_law_2507 : decode cL_law 2507 = .ok (.iaload, 1) := by decide +kernel
theorem dL_law_2508 : decode cL_law 2508 = .ok (.aload_n 3, 1) := by decide +kernel
theorem dL_law_2509 : decode cL_law 2509 = .ok (.invokestatic 281, 3) := by decide +kernel
theorem dL_law_2512 : decode cL_law 2512 = .ok (.istore 5, 2) := by decide +kernel
theorem dL_law_2514 : decode cL_law 2514 = .ok (.aload_n 2, 1) := by decide +kernel
theorem dL_law_2515 : decode cL_law 2515 = .ok (.aload_n 0, 1) := by decide +kernel
theorem dL_law_2516 : decode cL_law 2516 = .ok (.iload 4, 2) := by decide +kernel
theorem dL_law_2518 : decode cL_law 2518 = .ok (.iconst 1, 1) := by decide +kernel
theorem dL_law_2519 : decode cL_law 2519 = .ok (.iadd, 1) := by decide +kernel
theorem dL_law_2520 : decode cL_law 2520 = .ok (.iaload, 1) := by decide +kernel
theorem dL_law_2521 : decode cL_law 2521 = .ok (.invokevirtual 283, 3) := by decide +kernel
theorem dL_law_2524 : decode cL_law 2524 = .ok (.istore 6, 2) := by decide +kernel
theorem dL_law_2526 : decode cL_law 2526 = .ok (.aload_n 2, 1) := by decide +kernel
theorem dL_law_2527 : decode cL_law 2527 = .ok (.invokevirtual 156, 3) := by decide +kernel
theorem dL_law_2530 : decode cL_law 2530 = .ok (.iload 5, 2) := by decide +kernel
theorem dL_law_2532 : decode cL_law 2532 = .ok (.if_icmp .eq 5, 3) := by decide +kernel
theorem dL_law_2537 : decode cL_law 2537 = .ok (.iload 5, 2) := by decide +kernel
theorem dL_law_2539 : decode cL_law 2539 = .ok (.ifCond .ne 22, 3) := by decide +kernel
theorem dL_law_2542 : decode cL_law 2542 = .ok (.aload_n 3, 1) := by decide +kernel
theorem dL_law_2543 : decode cL_law 2543 = .ok (.iconst 0, 1) := by decide +kernel
theorem dL_law_2544 : decode cL_law 2544 = .ok (.laload, 1) := by decide +kernel
theorem dL_law_2545 : decode cL_law 2545 = .ok (.iload 6, 2) := by decide +kernel
theorem dL_law_2547 : decode cL_law 2547 = .ok (.ifCond .eq 7, 3) := by decide +kernel
theorem dL_law_2550 : decode cL_law 2550 = .ok (.lconst 1, 1) := by decide +kernel
theorem dL_law_2551 : decode cL_law 2551 = .ok (.goto 4, 3) := by decide +kernel
theorem dL_law_2554 : decode cL_law 2554 = .ok (.lconst 0, 1) := by decide +kernel
theorem dL_law_2555 : decode cL_law 2555 = .ok (.lcmp, 1) := by decide +kernel
theorem dL_law_2556 : decode cL_law 2556 = .ok (.ifCond .eq 5, 3) := by decide +kernel
theorem dL_law_2561 : decode cL_law 2561 = .ok (.goto 455, 3) := by decide +kernel
theorem dL_law_2564 : decode cL_law 2564 = .ok (.aload_n 1, 1) := by decide +kernel
theorem dL_law_2565 : decode cL_law 2565 = .ok (.aload_n 0, 1) := by decide +kernel
theorem dL_law_2566 : decode cL_law 2566 = .ok (.iload 4, 2) := by decide +kernel
theorem dL_law_2568 : decode cL_law 2568 = .ok (.iconst 1, 1) := by decide +kernel
theorem dL_law_2569 : decode cL_law 2569 = .ok (.iadd, 1) := by decide +kernel
theorem dL_law_2570 : decode cL_law 2570 = .ok (.iaload, 1) := by decide +kernel
theorem dL_law_2571 : decode cL_law 2571 = .ok (.aload_n 3, 1) := by decide +kernel
theorem dL_law_2572 : decode cL_law 2572 = .ok (.invokestatic 284, 3) := by decide +kernel
theorem dL_law_2575 : decode cL_law 2575 = .ok (.istore 5, 2) := by decide +kernel
theorem dL_law_2577 : decode cL_law 2577 = .ok (.aload_n 2, 1) := by decide +kernel
theorem dL_law_2578 : decode cL_law 2578 = .ok (.aload_n 0, 1) := by decide +kernel
theorem dL_law_2579 : decode cL_law 2579 = .ok (.iload 4, 2) := by decide +kernel
theorem dL_law_2581 : decode cL_law 2581 = .ok (.iconst 1, 1) := by decide +kernel
theorem dL_law_2582 : decode cL_law 2582 = .ok (.iadd, 1) := by decide +kernel
theorem dL_law_2583 : decode cL_law 2583 = .ok (.iaload, 1) := by decide +kernel
theorem dL_law_2584 : decode cL_law 2584 = .ok (.invokevirtual 286, 3) := by decide +kernel
theorem dL_law_2587 : decode cL_law 2587 = .ok (.istore 6, 2) := by decide +kernel
theorem dL_law_2589 : decode cL_law 2589 = .ok (.aload_n 2, 1) := by decide +kernel
theorem dL_law_2590 : decode cL_law 2590 = .ok (.invokevirtual 156, 3) := by decide +kernel
theorem dL_law_2593 : decode cL_law 2593 = .ok (.iload 5, 2) := by decide +kernel
theorem dL_law_2595 : decode cL_law 2595 = .ok (.if_icmp .eq 5, 3) := by decide +kernel
theorem dL_law_2600 : decode cL_law 2600 = .ok (.iload 5, 2) := by decide +kernel
theorem dL_law_2602 : decode cL_law 2602 = .ok (.ifCond .ne 22, 3) := by decide +kernel
theorem dL_law_2605 : decode cL_law 2605 = .ok (.aload_n 3, 1) := by decide +kernel
theorem dL_law_2606 : decode cL_law 2606 = .ok (.iconst 0, 1) := by decide +kernel
theorem dL_law_2607 : decode cL_law 2607 = .ok (.laload, 1) := by decide +kernel
theorem dL_law_2608 : decode cL_law 2608 = .ok (.iload 6, 2) := by decide +kernel
theorem dL_law_2610 : decode cL_law 2610 = .ok (.ifCond .eq 7, 3) := by decide +kernel
theorem dL_law_2613 : decode cL_law 2613 = .ok (.lconst 1, 1) := by decide +kernel
theorem dL_law_2614 : decode cL_law 2614 = .ok (.goto 4, 3) := by decide +kernel
theorem dL_law_2617 : decode cL_law 2617 = .ok (.lconst 0, 1) := by decide +kernel
theorem dL_law_2618 : decode cL_law 2618 = .ok (.lcmp, 1) := by decide +kernel
theorem dL_law_2619 : decode cL_law 2619 = .ok (.ifCond .eq 5, 3) := by decide +kernel
theorem dL_law_2624 : decode cL_law 2624 = .ok (.goto 392, 3) := by decide +kernel
theorem dL_law_2627 : decode cL_law 2627 = .ok (.aload_n 1, 1) := by decide +kernel
theorem dL_law_2628 : decode cL_law 2628 = .ok (.aload_n 0, 1) := by decide +kernel
theorem dL_law_2629 : decode cL_law 2629 = .ok (.iload 4, 2) := by decide +kernel
theorem dL_law_2631 : decode cL_law 2631 = .ok (.iconst 1, 1) := by decide +kernel
theorem dL_law_2632 : decode cL_law 2632 = .ok (.iadd, 1) := by decide +kernel
theorem dL_law_2633 : decode cL_law 2633 = .ok (.iaload, 1) := by decide +kernel
theorem dL_law_2634 : decode cL_law 2634 = .ok (.aload_n 3, 1) := by decide +kernel
theorem dL_law_2635 : decode cL_law 2635 = .ok (.invokestatic 287, 3) := by decide +kernel
theorem dL_law_2638 : decode cL_law 2638 = .ok (.istore 5, 2) := by decide +kernel
theorem dL_law_2640 : decode cL_law 2640 = .ok (.aload_n 2, 1) := by decide +kernel
theorem dL_law_2641 : decode cL_law 2641 = .ok (.aload_n 0, 1) := by decide +kernel
theorem dL_law_2642 : decode cL_law 2642 = .ok (.iload 4, 2) := by decide +kernel
theorem dL_law_2644 : decode cL_law 2644 = .ok (.iconst 1, 1) := by decide +kernel
theorem dL_law_2645 : decode cL_law 2645 = .ok (.iadd, 1) := by decide +kernel
theorem dL_law_2646 : decode cL_law 2646 = .ok (.iaload, 1) := by decide +kernel
theorem dL_law_2647 : decode cL_law 2647 = .ok (.invokevirtual 289, 3) := by decide +kernel
theorem dL_law_2650 : decode cL_law 2650 = .ok (.lstore 6, 2) := by decide +kernel
theorem dL_law_2652 : decode cL_law 2652 = .ok (.aload_n 2, 1) := by decide +kernel
theorem dL_law_2653 : decode cL_law 2653 = .ok (.invokevirtual 156, 3) := by decide +kernel
theorem dL_law_2656 : decode cL_law 2656 = .ok (.iload 5, 2) := by decide +kernel
theorem dL_law_2658 : decode cL_law 2658 = .ok (.if_icmp .eq 5, 3) := by decide +kernel
theorem dL_law_2663 : decode cL_law 2663 = .ok (.iload 5, 2) := by decide +kernel
theorem dL_law_2665 : decode cL_law 2665 = .ok (.ifCond .ne 14, 3) := by decide +kernel
theorem dL_law_2668 : decode cL_law 2668 = .ok (.aload_n 3, 1) := by decide +kernel
theorem dL_law_2669 : decode cL_law 2669 = .ok (.iconst 0, 1) := by decide +kernel
theorem dL_law_2670 : decode cL_law 2670 = .ok (.laload, 1) := by decide +kernel
theorem dL_law_2671 : decode cL_law 2671 = .ok (.lload 6, 2) := by decide +kernel
theorem dL_law_2673 : decode cL_law 2673 = .ok (.lcmp, 1) := by decide +kernel
theorem dL_law_2674 : decode cL_law 2674 = .ok (.ifCond .eq 5, 3) := by decide +kernel
theorem dL_law_2679 : decode cL_law 2679 = .ok (.goto 337, 3) := by decide +kernel
theorem dL_law_2682 : decode cL_law 2682 = .ok (.aload_n 1, 1) := by decide +kernel
theorem dL_law_2683 : decode cL_law 2683 = .ok (.invokevirtual 290, 3) := by decide +kernel
theorem dL_law_2686 : decode cL_law 2686 = .ok (.aload_n 2, 1) := by decide +kernel
theorem dL_law_2687 : decode cL_law 2687 = .ok (.invokevirtual 293, 3) := by decide +kernel
theorem dL_law_2690 : decode cL_law 2690 = .ok (.if_icmp .eq 326, 3) := by decide +kernel
theorem dL_law_2695 : decode cL_law 2695 = .ok (.aload_n 1, 1) := by decide +kernel
theorem dL_law_2696 : decode cL_law 2696 = .ok (.aload_n 0, 1) := by decide +kernel
theorem dL_law_2697 : decode cL_law 2697 = .ok (.iload 4, 2) := by decide +kernel
theorem dL_law_2699 : decode cL_law 2699 = .ok (.iconst 1, 1) := by decide +kernel
theorem dL_law_2700 : decode cL_law 2700 = .ok (.iadd, 1) := by decide +kernel
theorem dL_law_2701 : decode cL_law 2701 = .ok (.iaload, 1) := by decide +kernel
theorem dL_law_2702 : decode cL_law 2702 = .ok (.aload_n 0, 1) := by decide +kernel
theorem dL_law_2703 : decode cL_law 2703 = .ok (.iload 4, 2) := by decide +kernel
theorem dL_law_2705 : decode cL_law 2705 = .ok (.iconst 2, 1) := by decide +kernel
theorem dL_law_2706 : decode cL_law 2706 = .ok (.iadd, 1) := by decide +kernel
theorem dL_law_2707 : decode cL_law 2707 = .ok (.iaload, 1) := by decide +kernel
theorem dL_law_2708 : decode cL_law 2708 = .ok (.aload_n 0, 1) := by decide +kernel
theorem dL_law_2709 : decode cL_law 2709 = .ok (.iload 4, 2) := by decide +kernel
theorem dL_law_2711 : decode cL_law 2711 = .ok (.iconst 3, 1) := by decide +kernel
theorem dL_law_2712 : decode cL_law 2712 = .ok (.iadd, 1) := by decide +kernel
theorem dL_law_2713 : decode cL_law 2713 = .ok (.iaload, 1) := by decide +kernel
theorem dL_law_2714 : decode cL_law 2714 = .ok (.aload_n 0, 1) := by decide +kernel
theorem dL_law_2715 : decode cL_law 2715 = .ok (.iload 4, 2) := by decide +kernel
theorem dL_law_2717 : decode cL_law 2717 = .ok (.iconst 4, 1) := by decide +kernel
theorem dL_law_2718 : decode cL_law 2718 = .ok (.iadd, 1) := by decide +kernel
theorem dL_law_2719 : decode cL_law 2719 = .ok (.iaload, 1) := by decide +kernel
theorem dL_law_2720 : decode cL_law 2720 = .ok (.aload_n 3, 1) := by decide +kernel
theorem dL_law_2721 : decode cL_law 2721 = .ok (.invokestatic 294, 3) := by decide +kernel
theorem dL_law_2724 : decode cL_law 2724 = .ok (.istore 5, 2) := by decide +kernel
theorem dL_law_2726 : decode cL_law 2726 = .ok (.aload_n 2, 1) := by decide +kernel
theorem dL_law_2727 : decode cL_law 2727 = .ok (.aload_n 0, 1) := by decide +kernel
theorem dL_law_2728 : decode cL_law 2728 = .ok (.iload 4, 2) := by decide +kernel
theorem dL_law_2730 : decode cL_law 2730 = .ok (.iconst 1, 1) := by decide +kernel
theorem dL_law_2731 : decode cL_law 2731 = .ok (.iadd, 1) := by decide +kernel
theorem dL_law_2732 : decode cL_law 2732 = .ok (.iaload, 1) := by decide +kernel
theorem dL_law_2733 : decode cL_law 2733 = .ok (.aload_n 0, 1) := by decide +kernel
theorem dL_law_2734 : decode cL_law 2734 = .ok (.iload 4, 2) := by decide +kernel
theorem dL_law_2736 : decode cL_law 2736 = .ok (.iconst 2, 1) := by decide +kernel
theorem dL_law_2737 : decode cL_law 2737 = .ok (.iadd, 1) := by decide +kernel
theorem dL_law_2738 : decode cL_law 2738 = .ok (.iaload, 1) := by decide +kernel
theorem dL_law_2739 : decode cL_law 2739 = .ok (.aload_n 0, 1) := by decide +kernel
theorem dL_law_2740 : decode cL_law 2740 = .ok (.iload 4, 2) := by decide +kernel
theorem dL_law_2742 : decode cL_law 2742 = .ok (.iconst 3, 1) := by decide +kernel
theorem dL_law_2743 : decode cL_law 2743 = .ok (.iadd, 1) := by decide +kernel
theorem dL_law_2744 : decode cL_law 2744 = .ok (.iaload, 1) := by decide +kernel
theorem dL_law_2745 : decode cL_law 2745 = .ok (.aload_n 0, 1) := by decide +kernel
