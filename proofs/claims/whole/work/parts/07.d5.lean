theorem am_k1100_838 : am_chk code 838 [(.aload_n 1, 1), (.invokevirtual 117, 3), (.aload_n 2, 1), (.invokevirtual 121, 3), (.if_icmp .eq 67, 3), (.iconst 0, 1), (.ireturn, 1)] = true := by decide +kernel
theorem am_k1100_851 : am_chk code 851 [(.aload_n 1, 1), (.aload_n 0, 1), (.iload_n 3, 1), (.iconst 1, 1), (.iadd, 1), (.iaload, 1), (.ifCond .eq 7, 3), (.iconst 1, 1), (.goto 4, 3)] = true := by decide +kernel
theorem am_k1100_864 : am_chk code 864 [(.iconst 0, 1)] = true := by decide +kernel
theorem am_k1100_865 : am_chk code 865 [(.invokevirtual 122, 3), (.aload_n 2, 1), (.aload_n 0, 1), (.iload_n 3, 1), (.iconst 1, 1), (.iadd, 1), (.iaload, 1), (.ifCond .eq 7, 3), (.iconst 1, 1), (.goto 4, 3)] = true := by decide +kernel
theorem am_k1100_881 : am_chk code 881 [(.iconst 0, 1)] = true := by decide +kernel
