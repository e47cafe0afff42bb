/-! ===== printed by wip/whole/gen5.py: the law's rows ===== -/
theorem dL_592 : decode code 592 = .ok (.invokevirtual 96, 3) := by decide +kernel
theorem dL_595 : decode code 595 = .ok (.if_icmp .eq 190, 3) := by decide +kernel
theorem dL_600 : decode code 600 = .ok (.aload_n 1, 1) := by decide +kernel
theorem dL_601 : decode code 601 = .ok (.invokevirtual 97, 3) := by decide +kernel
theorem dL_604 : decode code 604 = .ok (.aload_n 2, 1) := by decide +kernel
theorem dL_605 : decode code 605 = .ok (.invokevirtual 100, 3) := by decide +kernel
theorem dL_608 : decode code 608 = .ok (.if_icmp .eq 177, 3) := by decide +kernel
theorem dL_613 : decode code 613 = .ok (.aload_n 1, 1) := by decide +kernel
theorem dL_614 : decode code 614 = .ok (.invokevirtual 101, 3) := by decide +kernel
theorem dL_617 : decode code 617 = .ok (.aload_n 2, 1) := by decide +kernel
theorem dL_618 : decode code 618 = .ok (.invokevirtual 104, 3) := by decide +kernel
theorem dL_621 : decode code 621 = .ok (.if_icmp .eq 164, 3) := by decide +kernel
theorem dL_626 : decode code 626 = .ok (.aload_n 1, 1) := by decide +kernel
theorem dL_627 : decode code 627 = .ok (.invokevirtual 105, 3) := by decide +kernel
theorem dL_630 : decode code 630 = .ok (.aload_n 2, 1) := by decide +kernel
theorem dL_631 : decode code 631 = .ok (.invokevirtual 108, 3) := by decide +kernel
theorem dL_634 : decode code 634 = .ok (.if_icmp .eq 151, 3) := by decide +kernel
theorem dL_639 : decode code 639 = .ok (.aload_n 1, 1) := by decide +kernel
theorem dL_640 : decode code 640 = .ok (.aload_n 0, 1) := by decide +kernel
theorem dL_641 : decode code 641 = .ok (.iload_n 3, 1) := by decide +kernel
theorem dL_642 : decode code 642 = .ok (.iconst 1, 1) := by decide +kernel
theorem dL_643 : decode code 643 = .ok (.iadd, 1) := by decide +kernel
theorem dL_644 : decode code 644 = .ok (.iaload, 1) := by decide +kernel
theorem dL_645 : decode code 645 = .ok (.aload_n 0, 1) := by decide +kernel
theorem dL_646 : decode code 646 = .ok (.iload_n 3, 1) := by decide +kernel
theorem dL_647 : decode code 647 = .ok (.iconst 2, 1) := by decide +kernel
theorem dL_648 : decode code 648 = .ok (.iadd, 1) := by decide +kernel
theorem dL_649 : decode code 649 = .ok (.iaload, 1) := by decide +kernel
theorem dL_650 : decode code 650 = .ok (.aload_n 0, 1) := by decide +kernel
theorem dL_651 : decode code 651 = .ok (.iload_n 3, 1) := by decide +kernel
theorem dL_652 : decode code 652 = .ok (.iconst 3, 1) := by decide +kernel
theorem dL_653 : decode code 653 = .ok (.iadd, 1) := by decide +kernel
theorem dL_654 : decode code 654 = .ok (.iaload, 1) := by decide +kernel
theorem dL_655 : decode code 655 = .ok (.aload_n 0, 1) := by decide +kernel
theorem dL_656 : decode code 656 = .ok (.iload_n 3, 1) := by decide +kernel
theorem dL_657 : decode code 657 = .ok (.iconst 4, 1) := by decide +kernel
theorem dL_658 : decode code 658 = .ok (.iadd, 1) := by decide +kernel
theorem dL_659 : decode code 659 = .ok (.iaload, 1) := by decide +kernel
theorem dL_660 : decode code 660 = .ok (.invokevirtual 109, 3) := by decide +kernel
theorem dL_663 : decode code 663 = .ok (.aload_n 2, 1) := by decide +kernel
theorem dL_664 : decode code 664 = .ok (.aload_n 0, 1) := by decide +kernel
theorem dL_665 : decode code 665 = .ok (.iload_n 3, 1) := by decide +kernel
theorem dL_666 : decode code 666 = .ok (.iconst 1, 1) := by decide +kernel
theorem dL_667 : decode code 667 = .ok (.iadd, 1) := by decide +kernel
theorem dL_668 : decode code 668 = .ok (.iaload, 1) := by decide +kernel
theorem dL_669 : decode code 669 = .ok (.aload_n 0, 1) := by decide +kernel
theorem dL_670 : decode code 670 = .ok (.iload_n 3, 1) := by decide +kernel
theorem dL_671 : decode code 671 = .ok (.iconst 2, 1) := by decide +kernel
theorem dL_672 : decode code 672 = .ok (.iadd, 1) := by decide +kernel
theorem dL_673 : decode code 673 = .ok (.iaload, 1) := by decide +kernel
theorem dL_674 : decode code 674 = .ok (.aload_n 0, 1) := by decide +kernel
theorem dL_675 : decode code 675 = .ok (.iload_n 3, 1) := by decide +kernel
theorem dL_676 : decode code 676 = .ok (.iconst 3, 1) := by decide +kernel
theorem dL_677 : decode code 677 = .ok (.iadd, 1) := by decide +kernel
theorem dL_678 : decode code 678 = .ok (.iaload, 1) := by decide +kernel
theorem dL_679 : decode code 679 = .ok (.aload_n 0, 1) := by decide +kernel
theorem dL_680 : decode code 680 = .ok (.iload_n 3, 1) := by decide +kernel
theorem dL_681 : decode code 681 = .ok (.iconst 4, 1) := by decide +kernel
theorem dL_682 : decode code 682 = .ok (.iadd, 1) := by decide +kernel
theorem dL_683 : decode code 683 = .ok (.iaload, 1) := by decide +kernel
