/-! ===== printed by wip/whole/gen5.py: the law's rows ===== -/
theorem dL_776 : decode code 776 = .ok (.iaload, 1) := by decide +kernel
theorem dL_777 : decode code 777 = .ok (.invokevirtual 129, 3) := by decide +kernel
theorem dL_780 : decode code 780 = .ok (.if_icmp .eq 5, 3) := by decide +kernel
theorem dL_785 : decode code 785 = .ok (.iinc 3 5, 3) := by decide +kernel
theorem dL_788 : decode code 788 = .ok (.goto (-770), 3) := by decide +kernel
theorem dL_791 : decode code 791 = .ok (.iconst 1, 1) := by decide +kernel
theorem dL_792 : decode code 792 = .ok (.ireturn, 1) := by decide +kernel
