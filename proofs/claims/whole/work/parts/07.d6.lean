theorem am_k1100_882 : am_chk code 882 [(.invokevirtual 126, 3), (.if_icmp .eq 28, 3), (.iconst 0, 1), (.ireturn, 1)] = true := by decide +kernel
theorem am_k1100_890 : am_chk code 890 [(.aload_n 1, 1), (.aload_n 0, 1), (.iload_n 3, 1), (.iconst 1, 1), (.iadd, 1), (.iaload, 1), (.invokevirtual 127, 3), (.aload_n 2, 1), (.aload_n 0, 1), (.iload_n 3, 1), (.iconst 1, 1), (.iadd, 1), (.iaload, 1), (.invokevirtual 130, 3), (.if_icmp .eq 5, 3), (.iconst 0, 1), (.ireturn, 1)] = true := by decide +kernel
theorem am_k1100_913 : am_chk code 913 [(.iinc 3 6, 3), (.goto (-898), 3)] = true := by decide +kernel
theorem am_k1100_919 : am_chk code 919 [(.iconst 1, 1), (.ireturn, 1)] = true := by decide +kernel
